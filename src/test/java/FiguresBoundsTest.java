/** The boundary cases of promises 1 to 9, and of "1" under Terms: a method for each sentence that names one. */
public final class FiguresBoundsTest {
    private static final long LOST = DrawnAreas.LOST;
    private static final Check CHECK = new Check("FiguresBoundsTest");

    public static void main(String[] args) {
        newFigures();
        newLengths();
        newFoot();
        objectsApart();
        lastOf512Calls();
        figures0To5();
        points24AtMost();
        pointsNumberedFrom0();
        xAndY();
        cornersOfThePaper();
        anotherFigureIsNotFull();
        roomAgainAfterClear();
        moveInAFullFigure();
        moveOfThePointsThatAre();
        clearTellsHowMany();
        clearedIsNotClosed();
        atMinus1TellsHowMany();
        atWhat();
        atSmallNumbersBelow0();
        copyOfEachSize();
        copyTurnedOntoItself();
        copyOverMore();
        closedFrom3On();
        twiceWithTheLastSide();
        twiceSign();
        twiceGreatest();
        simpleOnlyIfClosed();
        simpleNoSideWithoutLength();
        simpleNeighbours();
        simpleOthers();
        simpleTriangles();
        simpleOfTwentyFour();
        windsPlaces();
        windsOnEverySide();
        windsBesideASide();
        windsOnASideWithoutLength();
        windsMost();
        windsAtAPointsHeight();
        CHECK.end();
    }

    // ---- promise 1

    private static void newFigures() {
        CHECK.says("FIGURES without POINTS");
        DrawnAreas d = new DrawnAreas();
        for (int f = 0; f < 6; f++) {
            CHECK.due("at(" + f + ", -1, 0)", d.at(f, -1, 0), 0);
            CHECK.due("at(" + f + ", 0, 0)", d.at(f, 0, 0), -1001);
            CHECK.due("twice(" + f + ")", d.twice(f), LOST - 3);
            CHECK.due("clear(" + f + ")", d.clear(f), 0);
            CHECK.due("point(" + f + ", 0, 0)", d.point(f, 0, 0), 0);
        }
    }

    private static void newLengths() {
        CHECK.says("ROD 150; U 60, T 1000");
        DrawnAreas d = new DrawnAreas();
        CHECK.dueFraction("may: U ROD by T", d.may(1, 0, 0, 0, 0), d.may(1, 0, 0, 0, 1), 9, 1);
        CHECK.due("ROD", d.rod(1), 150);
        CHECK.dueFraction("may: U by T", d.may(1, 0, 0, 0, 0), d.may(1, 0, 0, 0, 1), 3, 50);
    }

    private static void newFoot() {
        CHECK.says("the foot at 0, 0, A 100, B 0");
        DrawnAreas d = new DrawnAreas();
        int[] near = {0, 0, 1, 0, -1, 0, 0, 1, 0, -1};
        for (int k = 0; k < near.length; k += 2) {
            Bounds.heap(d, 0, 3, near[k], near[k + 1]);
            String where = "ring(0, 1), a heap at " + near[k] + ", " + near[k + 1];
            CHECK.due(where, d.ring(0, 1), k == 0 ? LOST - 5 : 0);
        }
        CHECK.due("A A and ROD ROD, ROD 150", d.ring(0, 0), 10000 + 22500);
        d.rod(1);
        CHECK.due("A A and ROD ROD, ROD 1", d.ring(0, 0), 10000 + 1);
    }

    private static void objectsApart() {
        CHECK.says("A new object");
        DrawnAreas used = Bounds.full();
        used.rod(7);
        used.arm(1, 2, 3, 4);
        used.teeth(5, 6);
        newFigures();
        newLengths();
        newFoot();
        CHECK.due("the other keeps its rod", used.rod(8), 7);
        CHECK.due("the other keeps its points", used.at(0, -1, 0), 24);
    }

    private static void lastOf512Calls() {
        CHECK.says("An object is used for at most 512 calls after it has been made");
        DrawnAreas d = new DrawnAreas();
        int calls = 0;
        for (int round = 0; round < 20; round++) {
            for (int i = 0; i < 24; i++) {
                CHECK.due("point " + i + " of round " + round, d.point(round % 6, i, round), i);
                calls++;
            }
            CHECK.due("clear in round " + round, d.clear(round % 6), 24);
            calls++;
        }
        while (calls < 509) {
            d.rod(1 + calls % 400);
            calls++;
        }
        CHECK.due("call 510", d.point(5, 3, 4), 0);
        CHECK.due("call 511", d.at(5, 0, 1), 4);
        CHECK.due("call 512", d.rod(9), 1 + 508 % 400);
    }

    // ---- promises 2 to 6

    private static void figures0To5() {
        CHECK.says("UNKNOWN -1 (there is no such FIGURE, POINT)");
        Bounds.range(CHECK, "point figure", DrawnAreas::new, 0, 5, -1, (d, v) -> d.point(v, 0, 0));
        Bounds.range(CHECK, "move figure", Bounds::triangles, 0, 5, -1, (d, v) -> d.move(v, 0, 0, 0));
        Bounds.range(CHECK, "clear figure", DrawnAreas::new, 0, 5, -1, (d, v) -> d.clear(v));
        Bounds.range(CHECK, "at figure", Bounds::triangles, 0, 5, -1001, (d, v) -> d.at(v, 0, 0));
        Bounds.range(CHECK, "at figure, i -1", DrawnAreas::new, 0, 5, -1001, (d, v) -> d.at(v, -1, 0));
        Bounds.range(CHECK, "copy a", Bounds::triangles, 0, 5, -1, (d, v) -> d.copy(v, 3, false));
        Bounds.range(CHECK, "copy b", Bounds::triangles, 0, 5, -1, (d, v) -> d.copy(3, v, true));
        Bounds.range(CHECK, "twice figure", Bounds::triangles, 0, 5, LOST - 1, (d, v) -> d.twice(v));
        Bounds.range(CHECK, "simple figure", DrawnAreas::new, 0, 5, -1, (d, v) -> d.simple(v));
        Bounds.range(CHECK, "winds figure", Bounds::triangles, 0, 5, -1001, (d, v) -> d.winds(v, 0, 0));
        DrawnAreas d = new DrawnAreas();
        CHECK.due("copy, both unknown", d.copy(6, -1, false), -1);
        CHECK.due("copy, both the same unknown", d.copy(6, 6, true), -1);
    }

    private static void points24AtMost() {
        CHECK.says("FIGURES 0 to 5 have POINTS, 24 at most, numbered from 0 on");
        DrawnAreas d = new DrawnAreas();
        for (int f = 0; f < 6; f++) {
            for (int i = 0; i < 24; i++) {
                CHECK.due("point " + i + " of figure " + f, d.point(f, i, f), i);
            }
            CHECK.due("point 24 of figure " + f, d.point(f, 0, 0), -4);
            CHECK.due("and again", d.point(f, 0, 0), -4);
            CHECK.due("how many", d.at(f, -1, 0), 24);
            CHECK.due("the last", d.at(f, 23, 0), 23);
            CHECK.due("the first", d.at(f, 0, 1), f);
        }
    }

    private static void pointsNumberedFrom0() {
        CHECK.says("numbered from 0 on");
        Bounds.range(CHECK, "move i of 24", Bounds::full, 0, 23, -1, (d, v) -> d.move(5, v, 1, 1));
        Bounds.range(CHECK, "move i of 3", Bounds::triangles, 0, 2, -1, (d, v) -> d.move(0, v, 1, 1));
        Bounds.range(CHECK, "at i of 24", Bounds::full, -1, 23, -1001, (d, v) -> d.at(5, v, 1));
        Bounds.range(CHECK, "at i of 3", Bounds::triangles, -1, 2, -1001, (d, v) -> d.at(5, v, 0));
        Bounds.range(CHECK, "at i of none", DrawnAreas::new, -1, -1, -1001, (d, v) -> d.at(5, v, 0));
        DrawnAreas d = new DrawnAreas();
        CHECK.due("move 0 of none", d.move(0, 0, 0, 0), -1);
        d.point(0, 5, 6);
        CHECK.due("move 0 of one", d.move(0, 0, 7, 8), 1);
        CHECK.due("move 1 of one", d.move(0, 1, 9, 9), -1);
        CHECK.due("move -1: no count there", d.move(0, -1, 9, 9), -1);
        CHECK.duePoints("moved", d, 0, 7, 8);
    }

    private static void xAndY() {
        CHECK.says("x, y -100 to 100");
        Bounds.range(CHECK, "point x", DrawnAreas::new, -100, 100, -2, (d, v) -> d.point(0, v, 0));
        Bounds.range(CHECK, "point y", DrawnAreas::new, -100, 100, -2, (d, v) -> d.point(0, 0, v));
        Bounds.range(CHECK, "move x", Bounds::triangles, -100, 100, -2, (d, v) -> d.move(5, 2, v, 0));
        Bounds.range(CHECK, "move y", Bounds::triangles, -100, 100, -2, (d, v) -> d.move(5, 2, 0, v));
    }

    private static void cornersOfThePaper() {
        CHECK.says("A POINT more: its number");
        DrawnAreas d = new DrawnAreas();
        CHECK.due("point(2, -100, -100)", d.point(2, -100, -100), 0);
        CHECK.due("point(2, 100, -100)", d.point(2, 100, -100), 1);
        CHECK.due("point(2, 100, 100)", d.point(2, 100, 100), 2);
        CHECK.due("point(2, -100, 100)", d.point(2, -100, 100), 3);
        CHECK.duePoints("corners", d, 2, -100, -100, 100, -100, 100, 100, -100, 100);
        CHECK.due("point at a place that has one", d.point(2, -100, 100), 4);
        for (int i = 0; i < 5; i++) {
            CHECK.due("move " + i, d.move(2, i, i % 2 == 0 ? 100 : -100, i % 2 == 0 ? -100 : 100), 1);
        }
        CHECK.duePoints("moved", d, 2, 100, -100, -100, 100, 100, -100, -100, 100, 100, -100);
    }

    private static void anotherFigureIsNotFull() {
        CHECK.says("UNKNOWN; OUTSIDE; FULL.");
        DrawnAreas d = Bounds.full();
        CHECK.due("point(0, 0, 0)", d.point(0, 0, 0), -4);
        CHECK.due("point(5, 0, 0)", d.point(5, 0, 0), -4);
        for (int f = 1; f < 5; f++) {
            CHECK.due("point(" + f + ", 0, 0)", d.point(f, 0, 0), 0);
        }
    }

    private static void roomAgainAfterClear() {
        CHECK.says("A FIGURE without POINTS: how many there were");
        DrawnAreas d = Bounds.full();
        CHECK.due("clear of 24", d.clear(0), 24);
        for (int i = 0; i < 24; i++) {
            CHECK.due("point " + i, d.point(0, -i, 2 * i), i);
        }
        CHECK.due("point 24", d.point(0, 0, 0), -4);
        CHECK.due("the other full one stays", d.at(5, 23, 1), 23);
    }

    private static void moveInAFullFigure() {
        CHECK.says("A POINT is elsewhere: 1");
        DrawnAreas d = Bounds.full();
        CHECK.due("move 23 of 24", d.move(0, 23, 50, 60), 1);
        CHECK.due("x", d.at(0, 23, 0), 50);
        CHECK.due("y", d.at(0, 23, 1), 60);
        CHECK.due("its neighbour", d.at(0, 22, 0), 22);
        CHECK.due("no other figure", d.at(5, 23, 0), -23);
        CHECK.due("as many as before", d.at(0, -1, 0), 24);
        CHECK.due("move to where it is", d.move(0, 23, 50, 60), 1);
    }

    private static void moveOfThePointsThatAre() {
        CHECK.says("UNKNOWN -1 (there is no such FIGURE, POINT)");
        DrawnAreas d = Bounds.full();
        d.clear(0);
        CHECK.due("move 0 of a cleared figure", d.move(0, 0, 1, 1), -1);
        d.point(0, 3, 3);
        CHECK.due("move 1, which was there before", d.move(0, 1, 1, 1), -1);
        CHECK.due("at 1, which was there before", d.at(0, 1, 0), -1001);
        CHECK.due("at 0", d.at(0, 0, 0), 3);
    }

    private static void clearTellsHowMany() {
        CHECK.says("A FIGURE without POINTS: how many there were");
        DrawnAreas d = new DrawnAreas();
        CHECK.due("clear of none", d.clear(3), 0);
        d.point(3, 1, 1);
        CHECK.due("clear of one", d.clear(3), 1);
        CHECK.due("clear again", d.clear(3), 0);
        Bounds.heap(d, 3, 23, 1, 1);
        CHECK.due("clear of 23", d.clear(3), 23);
        Bounds.heap(d, 3, 24, 1, 1);
        d.point(3, 1, 1);
        CHECK.due("clear of 24, a 25th refused", d.clear(3), 24);
    }

    private static void clearedIsNotClosed() {
        CHECK.says("A FIGURE without POINTS: how many there were");
        DrawnAreas d = Bounds.triangles();
        d.clear(2);
        CHECK.due("twice of the cleared", d.twice(2), LOST - 3);
        CHECK.due("simple of the cleared", d.simple(2), 0);
        CHECK.due("winds of the cleared", d.winds(2, 0, 0), -1003);
        CHECK.due("twice of its neighbour", d.twice(1), 900);
        CHECK.due("twice of its other neighbour", d.twice(3), 900);
    }

    private static void atMinus1TellsHowMany() {
        CHECK.says("i = -1: how many POINTS");
        DrawnAreas d = new DrawnAreas();
        for (int n = 0; n <= 24; n++) {
            CHECK.due("how many of " + n, d.at(4, -1, 0), n);
            CHECK.due("how many of " + n + ", what 1", d.at(4, -1, 1), n);
            CHECK.due("how many of " + n + ", what 2", d.at(4, -1, 2), n);
            d.point(4, -7, -8);
        }
        CHECK.due("how many of 24, one refused", d.at(4, -1, 0), 24);
        CHECK.due("how many, what far off", d.at(4, -1, Integer.MIN_VALUE), 24);
        CHECK.due("at -2", d.at(4, -2, 0), -1001);
    }

    private static void atWhat() {
        CHECK.says("x (what = 0), y (1) of a POINT");
        Bounds.range(CHECK, "at what", Bounds::triangles, 0, 1, -1002, (d, v) -> d.at(5, 2, v));
        DrawnAreas d = Bounds.triangles();
        CHECK.due("x", d.at(5, 2, 0), -10);
        CHECK.due("y", d.at(5, 2, 1), 20);
    }

    private static void atSmallNumbersBelow0() {
        CHECK.says("(UNKNOWN: -1001; OUTSIDE: -1002.)");
        DrawnAreas d = new DrawnAreas();
        d.point(0, -1, -2);
        CHECK.due("x -1 is no refusal", d.at(0, 0, 0), -1);
        CHECK.due("y -2 is no refusal", d.at(0, 0, 1), -2);
        CHECK.due("no such point", d.at(0, 1, 0), -1001);
        CHECK.due("no such what", d.at(0, 0, 2), -1002);
    }

    private static void copyOfEachSize() {
        CHECK.says("FIGURE b becomes a, the other way round (POINT 0 first, then the last, and so on), if turned: POINTS");
        for (int n = 0; n <= 24; n++) {
            DrawnAreas d = new DrawnAreas();
            for (int i = 0; i < n; i++) {
                d.point(1, i, 50 - i);
            }
            CHECK.due("copy of " + n, d.copy(1, 0, false), n);
            CHECK.due("copy turned of " + n, d.copy(1, 5, true), n);
            CHECK.due("how many of " + n, d.at(0, -1, 0), n);
            CHECK.due("how many turned of " + n, d.at(5, -1, 0), n);
            for (int i = 0; i < n; i++) {
                int from = i == 0 ? 0 : n - i;
                CHECK.due("x of " + i + " of " + n, d.at(0, i, 0), i);
                CHECK.due("y of " + i + " of " + n, d.at(0, i, 1), 50 - i);
                CHECK.due("x turned of " + i + " of " + n, d.at(5, i, 0), from);
                CHECK.due("y turned of " + i + " of " + n, d.at(5, i, 1), 50 - from);
                CHECK.due("a stays, x of " + i + " of " + n, d.at(1, i, 0), i);
            }
        }
    }

    private static void copyTurnedOntoItself() {
        CHECK.says("FIGURE b becomes a, the other way round (POINT 0 first, then the last, and so on), if turned: POINTS");
        for (int n = 0; n <= 24; n++) {
            DrawnAreas d = new DrawnAreas();
            for (int i = 0; i < n; i++) {
                d.point(2, i, 50 - i);
            }
            CHECK.due("copy of " + n + " onto itself", d.copy(2, 2, false), n);
            CHECK.due("copy turned of " + n + " onto itself", d.copy(2, 2, true), n);
            for (int i = 0; i < n; i++) {
                CHECK.due("x of " + i + " of " + n, d.at(2, i, 0), i == 0 ? 0 : n - i);
                CHECK.due("y of " + i + " of " + n, d.at(2, i, 1), i == 0 ? 50 : 50 - n + i);
            }
        }
    }

    private static void copyOverMore() {
        CHECK.says("FIGURE b becomes a, the other way round (POINT 0 first, then the last, and so on), if turned: POINTS");
        DrawnAreas d = Bounds.full();
        Check.draw(d, 1, 4, 5);
        CHECK.due("one over 24", d.copy(1, 0, true), 1);
        CHECK.duePoints("one", d, 0, 4, 5);
        CHECK.due("no second any more", d.at(0, 1, 0), -1001);
        CHECK.due("its next number", d.point(0, 6, 7), 1);
        CHECK.due("none over 24", d.copy(2, 5, false), 0);
        CHECK.due("none", d.at(5, -1, 0), 0);
    }

    // ---- promise 7, and what CLOSED means

    private static void closedFrom3On() {
        CHECK.says("A FIGURE is CLOSED, if it has 3 POINTS or more");
        DrawnAreas d = new DrawnAreas();
        int[] xy = {0, 0, 4, 0, 0, 3, -4, 0};
        for (int n = 0; n <= 4; n++) {
            CHECK.due("twice of " + n, d.twice(0), n < 3 ? LOST - 3 : n == 3 ? 12 : 24);
            CHECK.due("winds of " + n, d.winds(0, 1, 1), n < 3 ? -1003 : 1);
            CHECK.due("simple of " + n, d.simple(0), n < 3 ? 0 : 1);
            if (n < 4) {
                d.point(0, xy[2 * n], xy[2 * n + 1]);
            }
        }
    }

    private static void twiceWithTheLastSide() {
        CHECK.says("SIDES go from each POINT to the next, from the last to the first");
        DrawnAreas d = new DrawnAreas();
        for (int first = 0; first < 4; first++) {
            Bounds.drawFrom(d, 0, first, 10, 10, 40, 20, 30, 60, -20, 50);
            CHECK.due("twice, begun at " + first, d.twice(0), -200 + 1800 + 2700 - 700);
        }
    }

    private static void twiceSign() {
        CHECK.says("(above 0, if it goes round to the left)");
        DrawnAreas d = new DrawnAreas();
        Check.draw(d, 0, 0, 0, 1, 0, 0, 1);
        CHECK.due("the least to the left", d.twice(0), 1);
        Check.draw(d, 0, 0, 0, 0, 1, 1, 0);
        CHECK.due("the least to the right", d.twice(0), -1);
        Check.draw(d, 0, 0, 0, 1, 1, 2, 2);
        CHECK.due("flat", d.twice(0), 0);
        Bounds.heap(d, 0, 3, 100, 100);
        CHECK.due("one place", d.twice(0), 0);
    }

    private static void twiceGreatest() {
        CHECK.says("TWICE THE AREA: the sum over SIDES of x y' less x' y");
        DrawnAreas d = new DrawnAreas();
        Bounds.sixTimes(d, 0, -100, -100, 100, 100);
        CHECK.due("six times round all", d.twice(0), 480000);
        d.copy(0, 1, true);
        CHECK.due("six times round all to the right", d.twice(1), -480000);
    }

    // ---- promise 8

    private static void simpleIs(int want, String what, int... xy) {
        DrawnAreas d = new DrawnAreas();
        for (int first = 0; first < Math.max(1, xy.length / 2); first++) {
            Bounds.drawFrom(d, 0, first, xy);
            CHECK.due("simple: " + what + ", begun at " + first, d.simple(0), want);
            d.copy(0, 1, true);
            CHECK.due("simple turned: " + what + ", begun at " + first, d.simple(1), want);
        }
    }

    private static void simpleOnlyIfClosed() {
        CHECK.says("It is SIMPLE, if it is CLOSED");
        simpleIs(0, "none");
        simpleIs(0, "one", 3, 3);
        simpleIs(0, "two", 3, 3, 9, 3);
        simpleIs(1, "three", 3, 3, 9, 3, 3, 9);
    }

    private static void simpleNoSideWithoutLength() {
        CHECK.says("no SIDE is without length");
        simpleIs(0, "a place twice running", 0, 0, 0, 0, 8, 0, 0, 8);
        simpleIs(0, "a place twice running, three points", 0, 0, 0, 0, 8, 0);
        simpleIs(0, "one place", 5, 5, 5, 5, 5, 5);
        simpleIs(1, "places 1 apart", 0, 0, 1, 0, 1, 1, 0, 1);
    }

    private static void simpleNeighbours() {
        CHECK.says("no two SIDES that are neighbours have more than their common POINT in common");
        simpleIs(0, "back by the same way", 0, 0, 8, 0, 0, 0, 0, 8);
        simpleIs(0, "back by 1", 0, 0, 8, 0, 7, 0, 0, 8);
        simpleIs(0, "back beyond the beginning", 0, 0, 8, 0, -1, 0, 0, 8);
        simpleIs(0, "back, slanting", 0, 0, 6, 3, 4, 2, 0, 8);
        simpleIs(0, "back, upright", 0, 0, 0, 6, 0, 5, 9, 5);
        simpleIs(1, "nearly back", 0, 0, 100, 1, 1, 0, 50, -9);
        simpleIs(1, "straight on", 0, 0, 8, 0, 9, 0, 0, 8);
        simpleIs(1, "straight on, slanting", 0, 0, 4, 2, 6, 3, 0, 8);
        simpleIs(1, "straight on at all sides", 0, 0, 1, 0, 2, 0, 2, 1, 2, 2, 1, 2, 0, 2, 0, 1);
    }

    private static void simpleOthers() {
        CHECK.says("no two others any");
        simpleIs(0, "two sides cross", 0, 0, 4, 4, 4, 0, 0, 4);
        simpleIs(0, "a point on a side", 0, 0, 8, 0, 8, 8, 4, 0, 0, 8);
        simpleIs(1, "a point 1 from a side", 0, 0, 8, 0, 8, 8, 4, 1, 0, 8);
        simpleIs(0, "a point 1 beyond a side", 0, 0, 8, 0, 8, 8, 4, -1, 0, 8);
        simpleIs(0, "a place twice", 0, 0, 8, 0, 4, 4, 8, 8, 0, 8, 4, 4);
        simpleIs(0, "sides that lie on each other", 0, 0, 8, 0, 8, 4, 2, 4, 2, 0, 6, 0, 6, -4, 0, -4);
        simpleIs(0, "sides on one line that touch", 0, 0, 4, 0, 4, 4, 8, 4, 8, 0, 4, 0, 4, -4, 0, -4);
        simpleIs(1, "sides on one line 1 apart", 0, 0, 4, 0, 4, 4, 5, 4, 5, 0, 9, 0, 9, 9, 0, 9);
        simpleIs(0, "sides that cross near their ends", 0, 0, 100, 99, 99, 99, 100, 98);
        simpleIs(0, "sides that cross, all ends as near as can be", 0, 0, 2, 1, 1, 1, 1, 0);
        simpleIs(0, "long sides that cross, all ends as near as can be", -100, -99, 99, 100, 98, 99, -99, -98);
        simpleIs(1, "a narrow bay", 0, 0, 100, 0, 100, 3, 1, 1, 100, 4, 0, 4);
    }

    private static void simpleTriangles() {
        CHECK.says("no two SIDES that are neighbours have more than their common POINT in common");
        simpleIs(1, "the narrowest", -100, -100, 100, 99, 99, 98);
        simpleIs(1, "the widest", -100, -100, 100, -100, 0, 100);
        simpleIs(0, "flat", -100, 0, 0, 0, 100, 0);
        simpleIs(0, "flat and upright", 0, -100, 0, 0, 0, 100);
        simpleIs(0, "flat and slanting", -100, -100, 0, 0, 100, 100);
        simpleIs(0, "to and fro", 0, 0, 5, 5, 0, 0);
    }

    private static void simpleOfTwentyFour() {
        CHECK.says("It is SIMPLE, if it is CLOSED, no SIDE is without length");
        DrawnAreas d = new DrawnAreas();
        d.clear(0);
        for (int i = 0; i < 12; i++) {
            d.point(0, 8 * i, i % 2 == 0 ? 0 : -10);
        }
        for (int i = 11; i >= 0; i--) {
            d.point(0, 8 * i, i % 2 == 0 ? 20 : 10);
        }
        CHECK.due("a band of 24 points", d.simple(0), 1);
        d.move(0, 23, -9, 0);
        CHECK.due("its last point moved to its side", d.simple(0), 1);
        d.move(0, 23, 16, 0);
        CHECK.due("its last point at another", d.simple(0), 0);
        d.move(0, 23, 50, -100);
        CHECK.due("its last sides through all", d.simple(0), 0);
        d.move(0, 23, 0, 0);
        CHECK.due("its last side without length", d.simple(0), 0);
    }

    // ---- promise 9

    private static void windsPlaces() {
        CHECK.says("WINDS of a place (x, y -300 to 300)");
        Bounds.range(CHECK, "winds x", Bounds::triangles, -300, 300, -1002, (d, v) -> d.winds(0, v, 1));
        Bounds.range(CHECK, "winds y", Bounds::triangles, -300, 300, -1002, (d, v) -> d.winds(0, 1, v));
        DrawnAreas d = new DrawnAreas();
        Check.draw(d, 0, -100, -100, 100, -100, 100, 100, -100, 100);
        int[] corners = {-300, -300, 300, -300, 300, 300, -300, 300, -101, 0, 101, 0, 0, -101, 0, 101};
        for (int k = 0; k < corners.length; k += 2) {
            CHECK.due("winds at " + corners[k] + ", " + corners[k + 1], d.winds(0, corners[k], corners[k + 1]), 0);
        }
        CHECK.due("winds at 99, -99", d.winds(0, 99, -99), 1);
        CHECK.due("winds at -99, 99", d.winds(0, -99, 99), 1);
    }

    private static void windsOnEverySide() {
        CHECK.says("NONE, if it is on a SIDE");
        DrawnAreas d = new DrawnAreas();
        int[] xy = {0, 0, 12, 6, 6, 18, -9, 9};
        int[] on = {0, 0, 12, 6, 6, 18, -9, 9, 2, 1, 10, 5, 11, 8, 7, 16, 1, 15, -4, 12, -1, 1, -8, 8};
        int[] off = {14, 7, -2, -1, 5, 20, 13, 4, 11, 21, -14, 6, -10, 10, 1, -1};
        for (int first = 0; first < 4; first++) {
            Bounds.drawFrom(d, 0, first, xy);
            for (int k = 0; k < on.length; k += 2) {
                CHECK.due("winds at " + on[k] + ", " + on[k + 1], d.winds(0, on[k], on[k + 1]), -1006);
            }
            for (int k = 0; k < off.length; k += 2) {
                CHECK.due("winds in line, beyond, at " + off[k] + ", " + off[k + 1], d.winds(0, off[k], off[k + 1]), 0);
            }
        }
    }

    private static void windsBesideASide() {
        CHECK.says("WINDS of a place (x, y -300 to 300): how often the SIDES go round it to the left, in all");
        DrawnAreas d = new DrawnAreas();
        // 0, 1 is less than a hundredth from the first SIDE's line.
        Check.draw(d, 0, -99, 0, 100, 2, -99, 100);
        CHECK.due("winds just left of a side", d.winds(0, 0, 1), 1);
        CHECK.due("winds just right of a side", d.winds(0, 0, 0), 0);
        CHECK.due("winds just left of a side, farther on", d.winds(0, 1, 2), 1);
        CHECK.due("winds just right of a side, farther on", d.winds(0, 1, 1), 0);
        // As near to a SIDE that goes down as a place can be, on both sides of it.
        Check.draw(d, 0, 3, 2, 0, 0, 3, -9);
        CHECK.due("winds just left of a side that goes down", d.winds(0, 2, 1), 1);
        CHECK.due("winds just right of a side that goes down", d.winds(0, 1, 1), 0);
        d.copy(0, 0, true);
        CHECK.due("winds just right of a side that goes up", d.winds(0, 2, 1), -1);
        CHECK.due("winds just left of a side that goes up", d.winds(0, 1, 1), 0);
    }

    private static void windsOnASideWithoutLength() {
        CHECK.says("NONE, if it is on a SIDE");
        DrawnAreas d = new DrawnAreas();
        Bounds.heap(d, 0, 3, 100, -100);
        CHECK.due("winds there", d.winds(0, 100, -100), -1006);
        CHECK.due("winds right of it", d.winds(0, 101, -100), 0);
        CHECK.due("winds left of it", d.winds(0, 99, -100), 0);
        CHECK.due("winds above it", d.winds(0, 100, -99), 0);
        CHECK.due("winds below it", d.winds(0, 100, -101), 0);
    }

    private static void windsMost() {
        CHECK.says("how often the SIDES go round it to the left, in all");
        DrawnAreas d = new DrawnAreas();
        for (int i = 0; i < 8; i++) {
            d.point(0, 30, -10);
            d.point(0, 0, 30);
            d.point(0, -30, -10);
        }
        CHECK.due("winds eight times to the left", d.winds(0, 0, 0), 8);
        CHECK.due("winds outside", d.winds(0, 30, 30), 0);
        d.copy(0, 1, true);
        CHECK.due("winds eight times to the right", d.winds(1, 0, 0), -8);
        CHECK.due("-6 is no NONE", windsSixToTheRight(), -6);
    }

    private static long windsSixToTheRight() {
        DrawnAreas d = new DrawnAreas();
        Bounds.sixTimes(d, 0, -5, -5, 5, 5);
        d.copy(0, 0, true);
        return d.winds(0, 0, 0);
    }

    private static void windsAtAPointsHeight() {
        CHECK.says("how often the SIDES go round it to the left, in all");
        DrawnAreas d = new DrawnAreas();
        // At the place's height: a POINT that is passed, one at which it turns, a level SIDE.
        int[] xy = {20, -20, 30, 0, 20, 20, 10, 0, 5, 20, -5, 20, -10, 0, -20, 0, -20, -20};
        for (int first = 0; first < 9; first++) {
            Bounds.drawFrom(d, 0, first, xy);
            CHECK.due("winds in its midst, begun at " + first, d.winds(0, 0, 0), 1);
            CHECK.due("winds right of the bay, begun at " + first, d.winds(0, 20, 0), 1);
            CHECK.due("winds left, begun at " + first, d.winds(0, -21, 0), 0);
            CHECK.due("winds right, begun at " + first, d.winds(0, 31, 0), 0);
            CHECK.due("winds at its top's height, left, begun at " + first, d.winds(0, -21, 20), 0);
            CHECK.due("winds at its top's height, in the bay, begun at " + first, d.winds(0, 10, 20), 0);
            CHECK.due("winds at its foot's height, left, begun at " + first, d.winds(0, -21, -20), 0);
            CHECK.due("winds in the bay, begun at " + first, d.winds(0, 10, 1), 0);
            CHECK.due("winds below the bay, begun at " + first, d.winds(0, 10, -1), 1);
        }
    }
}
