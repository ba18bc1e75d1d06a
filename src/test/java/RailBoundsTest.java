/** The boundary cases of promises 10 to 16, and of "2" under Terms: a method for each sentence that names one. */
public final class RailBoundsTest {
    private static final long LOST = DrawnAreas.LOST;
    private static final Check CHECK = new Check("RailBoundsTest");

    public static void main(String[] args) {
        figures0To5();
        closedFrom3On();
        rodFrom1To400();
        rodRefusedStays();
        toldFrom0ToAll();
        toldOfAllWithTheLastSide();
        toldPart();
        toldLowestTerms();
        toldGreatest();
        toldOnlyIfItCanGo();
        theTurnIsTheArea();
        canLessThanRod();
        canEveryPoint();
        canShortestAndLongest();
        railNumbers();
        railANotAboveB();
        railEndsCounted();
        railFootAtEveryPoint();
        railFootWithinASide();
        railFootTouches();
        railBetweenWholeNumbers();
        railLeftOfThePointer();
        railOnlyIfItCanGo();
        railFarthest();
        shutHeights();
        shutSide();
        shutEmptySums();
        shutEachCut();
        shutWholeRoots();
        shutLiesBetween();
        gearedFrom1To3();
        gearedOnlyIfItCanGo();
        gearedGreatest();
        gearedOneIsTheTurn();
        momentFrom0To2();
        momentNeedNotGo();
        momentGreatest();
        momentLowestTerms();
        CHECK.end();
    }

    private static void figures0To5() {
        CHECK.says("UNKNOWN -1 (there is no such FIGURE, POINT)");
        Bounds.range(CHECK, "told figure", Bounds::triangles, 0, 5, LOST - 1, (d, v) -> d.told(v, 3, 0));
        Bounds.range(CHECK, "can figure", Bounds::triangles, 0, 5, -1, (d, v) -> d.can(v));
        Bounds.range(CHECK, "rail figure", Bounds::triangles, 0, 5, -1, (d, v) -> d.rail(v, -500, 500));
        Bounds.range(CHECK, "geared figure", Bounds::triangles, 0, 5, LOST - 1, (d, v) -> d.geared(v, 1, 0));
        Bounds.range(CHECK, "moment figure", Bounds::triangles, 0, 5, LOST - 1, (d, v) -> d.moment(v, 1, 0));
    }

    private static void closedFrom3On() {
        CHECK.says("A FIGURE is CLOSED, if it has 3 POINTS or more");
        DrawnAreas d = new DrawnAreas();
        for (int n = 0; n <= 3; n++) {
            boolean closed = n == 3;
            for (int k = 0; k <= n; k++) {
                CHECK.due("told after " + k + " of " + n, d.told(0, k, 1), closed ? 1 : LOST - 3);
            }
            CHECK.due("can of " + n, d.can(0), closed ? 1 : -3);
            CHECK.due("rail of " + n, d.rail(0, -1000, 1000), closed ? 1 : -3);
            CHECK.due("geared of " + n, d.geared(0, 3, 1), closed ? 1 : LOST - 3);
            CHECK.due("moment of " + n, d.moment(0, 2, 1), closed ? 1 : LOST - 3);
            d.point(0, 7, 0);
        }
    }

    // ---- promise 10

    private static void rodFrom1To400() {
        CHECK.says("ROD is its length (1 to 400; 150 at first)");
        Bounds.range(CHECK, "rod", DrawnAreas::new, 1, 400, -2, (d, v) -> d.rod(v));
        DrawnAreas d = new DrawnAreas();
        CHECK.due("rod(1), 150 at first", d.rod(1), 150);
        CHECK.due("rod(400)", d.rod(400), 1);
        CHECK.due("rod(400) again", d.rod(400), 400);
        CHECK.due("rod(1) again", d.rod(1), 400);
    }

    private static void rodRefusedStays() {
        CHECK.says("ROD: which it was. OUTSIDE.");
        DrawnAreas d = new DrawnAreas();
        CHECK.due("rod(0)", d.rod(0), -2);
        CHECK.due("rod(401)", d.rod(401), -2);
        CHECK.due("rod(33): 150 still", d.rod(33), 150);
        CHECK.due("rod(-33)", d.rod(-33), -2);
        CHECK.due("rod(34): 33 still", d.rod(34), 33);
    }

    // ---- promise 11

    private static void toldFrom0ToAll() {
        CHECK.says("TOLD after n pieces (0 to all, from POINT 0 on)");
        Bounds.range(CHECK, "told n of 3", Bounds::triangles, 0, 3, LOST - 2, (d, v) -> d.told(0, v, 0));
        Bounds.range(CHECK, "told n of 24", Bounds::full, 0, 24, LOST - 2, (d, v) -> d.told(5, v, 1));
        DrawnAreas d = new DrawnAreas();
        CHECK.due("told after 1 of none", d.told(0, 1, 0), LOST - 2);
        CHECK.due("told after -1 of none", d.told(0, -1, 0), LOST - 2);
        CHECK.due("told after 0 of none", d.told(0, 0, 0), LOST - 3);
        d.point(0, 0, 0);
        CHECK.due("told after 2 of one", d.told(0, 2, 0), LOST - 2);
        CHECK.due("told after 1 of one", d.told(0, 1, 0), LOST - 3);
    }

    private static void toldIs(DrawnAreas d, int n, long upper, long lower) {
        CHECK.dueFraction("told after " + n, d.told(0, n, 0), d.told(0, n, 1), upper, lower);
    }

    private static void toldOfAllWithTheLastSide() {
        CHECK.says("SIDES go from each POINT to the next, from the last to the first");
        DrawnAreas d = new DrawnAreas();
        d.rod(11);
        Check.draw(d, 0, 1, 2, 6, 5, 3, 9, -4, 8);
        toldIs(d, 0, 0, 1);
        toldIs(d, 1, 5 * 7, 22);
        toldIs(d, 2, 35 - 42, 22);
        toldIs(d, 3, (-7 - 119) / 2, 11);
        d.rod(13);
        toldIs(d, 3, -63, 13);
        toldIs(d, 4, -63 + 25, 13);
    }

    private static void toldPart() {
        CHECK.says("Fractions are told by part: 0 the upper, 1 the lower number");
        Bounds.range(CHECK, "told part", Bounds::triangles, 0, 1, LOST - 2, (d, v) -> d.told(0, 3, v));
        Bounds.range(CHECK, "geared part", Bounds::triangles, 0, 1, LOST - 2, (d, v) -> d.geared(0, 2, v));
        Bounds.range(CHECK, "moment part", Bounds::triangles, 0, 1, LOST - 2, (d, v) -> d.moment(0, 2, v));
    }

    private static void toldLowestTerms() {
        CHECK.says("in lowest terms, the lower above 0");
        DrawnAreas d = new DrawnAreas();
        Check.draw(d, 0, 0, 1, 1, 0, -1, 0);
        d.rod(2);
        toldIs(d, 1, 1, 4);
        toldIs(d, 2, 1, 4);
        toldIs(d, 3, 1, 2);
        d.copy(0, 0, true);
        toldIs(d, 1, -1, 4);
        toldIs(d, 3, -1, 2);
        Check.draw(d, 0, -50, 1, 50, -1, 0, 0);
        toldIs(d, 1, 0, 1);
        Check.draw(d, 0, 0, 1, 4, 1, 8, 1);
        toldIs(d, 1, 2, 1);
        toldIs(d, 2, 4, 1);
        toldIs(d, 3, 0, 1);
    }

    private static void toldGreatest() {
        CHECK.says("So along a straight piece from x, y to x', y' it rolls (x' - x)(y + y') by (2 ROD)");
        DrawnAreas d = new DrawnAreas();
        Check.draw(d, 0, -100, 100, 100, 100, -100, -100);
        d.rod(101);
        toldIs(d, 1, 20000, 101);
        d.rod(400);
        toldIs(d, 1, 50, 1);
        Bounds.sixTimes(d, 0, -100, -100, 100, 100);
        toldIs(d, 24, -600, 1);
        toldIs(d, 23, -600, 1);
        toldIs(d, 22, -550, 1);
        d.rod(101);
        toldIs(d, 24, -240000, 101);
    }

    private static void toldOnlyIfItCanGo() {
        CHECK.says("STATE: it is not CLOSED, or can't go round (LOST less 3)");
        DrawnAreas d = new DrawnAreas();
        Check.draw(d, 0, 0, 0, 5, 0, 5, -7);
        d.rod(8);
        CHECK.due("told, ROD 8", d.told(0, 3, 1), 16);
        d.rod(7);
        for (int n = 0; n <= 3; n++) {
            CHECK.due("told after " + n + ", ROD 7", d.told(0, n, 0), LOST - 3);
            CHECK.due("told after " + n + ", ROD 7, lower", d.told(0, n, 1), LOST - 3);
        }
        CHECK.due("told after 4, ROD 7", d.told(0, 4, 0), LOST - 2);
    }

    private static void theTurnIsTheArea() {
        CHECK.says("(times ROD the AREA, below 0, if it goes round to the left)");
        DrawnAreas d = new DrawnAreas();
        d.rod(1);
        Check.draw(d, 0, 1, 0, 2, 0, 3, 0);
        toldIs(d, 3, 0, 1);
        d.rod(2);
        Check.draw(d, 0, 0, 0, 1, 0, 0, 1);
        toldIs(d, 3, -1, 4);
        CHECK.due("twice, to the left", d.twice(0), 1);
        d.copy(0, 0, true);
        toldIs(d, 3, 1, 4);
        CHECK.due("twice, to the right", d.twice(0), -1);
    }

    // ---- promise 12

    private static void canLessThanRod() {
        CHECK.says("It CAN GO round, if each POINT is less than ROD from THE RAIL");
        int[] rods = {1, 2, 3, 50, 99, 100};
        for (int rod : rods) {
            DrawnAreas d = new DrawnAreas();
            d.rod(rod);
            Bounds.heap(d, 0, 3, 9, rod - 1);
            CHECK.due("can, ROD " + rod + ", 1 less above", d.can(0), 1);
            Bounds.heap(d, 0, 3, 9, 1 - rod);
            CHECK.due("can, ROD " + rod + ", 1 less below", d.can(0), 1);
            Bounds.heap(d, 0, 3, 9, rod);
            CHECK.due("can, ROD " + rod + ", as far above", d.can(0), 0);
            Bounds.heap(d, 0, 3, 9, -rod);
            CHECK.due("can, ROD " + rod + ", as far below", d.can(0), 0);
        }
    }

    private static void canEveryPoint() {
        CHECK.says("each POINT is less than ROD from THE RAIL");
        DrawnAreas d = new DrawnAreas();
        d.rod(30);
        Bounds.heap(d, 0, 24, 5, 29);
        CHECK.due("can, all nearer", d.can(0), 1);
        for (int i = 0; i < 24; i++) {
            d.move(0, i, 5, i % 2 == 0 ? 30 : -30);
            CHECK.due("can, point " + i + " as far as the rod", d.can(0), 0);
            CHECK.due("rail, point " + i + " as far as the rod", d.rail(0, -1000, 1000), 0);
            CHECK.due("geared, point " + i + " as far as the rod", d.geared(0, 1, 0), LOST - 3);
            CHECK.due("count, point " + i + " as far as the rod", d.count(0), LOST - 3);
            d.move(0, i, 5, -29);
            CHECK.due("can, point " + i + " back", d.can(0), 1);
        }
    }

    private static void canShortestAndLongest() {
        CHECK.says("It CAN GO round, if each POINT is less than ROD from THE RAIL");
        DrawnAreas d = new DrawnAreas();
        Check.draw(d, 0, -100, -100, 100, -100, 100, 100, -100, 100);
        CHECK.due("can, all, ROD 150", d.can(0), 1);
        d.rod(101);
        CHECK.due("can, all, ROD 101", d.can(0), 1);
        d.rod(100);
        CHECK.due("can, all, ROD 100", d.can(0), 0);
        d.rod(400);
        CHECK.due("can, all, ROD 400", d.can(0), 1);
        Check.draw(d, 0, -100, 0, 100, 0, 50, 0);
        d.rod(1);
        CHECK.due("can, on the rail, ROD 1", d.can(0), 1);
        d.move(0, 2, 50, 1);
        CHECK.due("can, 1 above the rail, ROD 1", d.can(0), 0);
    }

    // ---- promise 13

    private static void railNumbers() {
        CHECK.says("(-1000 to 1000, a not above b)");
        Bounds.range(CHECK, "rail a", Bounds::triangles, -1000, 1000, -2, (d, v) -> d.rail(0, v, 1000));
        Bounds.range(CHECK, "rail b", Bounds::triangles, -1000, 1000, -2, (d, v) -> d.rail(0, -1000, v));
        Bounds.range(CHECK, "rail a and b", Bounds::triangles, -1000, 1000, -2, (d, v) -> d.rail(0, v, v));
    }

    private static void railANotAboveB() {
        CHECK.says("a not above b");
        DrawnAreas d = Bounds.triangles();
        int[] at = {-999, -1, 0, 1, 1000};
        for (int b : at) {
            CHECK.due("rail a as b, " + b, d.rail(0, b, b), 0);
            CHECK.due("rail a 1 above b, " + b, d.rail(0, b + 1, b), -2);
            CHECK.due("rail a 1 below b, " + b, d.rail(0, b - 1, b), 0);
        }
        CHECK.due("rail a -1000, b -1000", d.rail(0, -1000, -1000), 0);
        CHECK.due("rail a 1000, b -1000", d.rail(0, 1000, -1000), -2);
        CHECK.due("rail a -1000, b 1000", d.rail(0, -1000, 1000), 1);
    }

    private static void railEndsCounted() {
        CHECK.says("(FOOT from a to b, ends counted)");
        DrawnAreas d = new DrawnAreas();
        d.rod(50);
        Bounds.heap(d, 0, 3, 0, 0);
        CHECK.due("rail, the foot at -50 alone", d.rail(0, -50, -50), 1);
        CHECK.due("rail, from -49", d.rail(0, -49, 1000), 0);
        CHECK.due("rail, to -51", d.rail(0, -1000, -51), 0);
        Bounds.heap(d, 0, 3, 10, 30);
        CHECK.due("rail, the foot at -30 alone", d.rail(0, -30, -30), 1);
        CHECK.due("rail, from -29", d.rail(0, -29, 1000), 0);
        CHECK.due("rail, to -31", d.rail(0, -1000, -31), 0);
        Bounds.heap(d, 0, 3, 10, -48);
        CHECK.due("rail, the foot at -4 alone", d.rail(0, -4, -4), 1);
        CHECK.due("rail, from -3", d.rail(0, -3, 1000), 0);
        CHECK.due("rail, to -5", d.rail(0, -1000, -5), 0);
    }

    private static void railFootAtEveryPoint() {
        CHECK.says("nowhere on the SIDES is the FOOT left of a, or right of b");
        DrawnAreas d = new DrawnAreas();
        d.rod(50);
        Bounds.heap(d, 0, 24, 40, 30);
        CHECK.due("rail, the foot at 0 alone", d.rail(0, 0, 0), 1);
        for (int i = 0; i < 24; i++) {
            d.move(0, i, 39, 30);
            CHECK.due("rail, point " + i + " has it at -1", d.rail(0, 0, 0), 0);
            CHECK.due("rail, point " + i + " has it at -1, from -1", d.rail(0, -1, 0), 1);
            d.move(0, i, 41, 30);
            CHECK.due("rail, point " + i + " has it at 1", d.rail(0, 0, 0), 0);
            CHECK.due("rail, point " + i + " has it at 1, to 1", d.rail(0, 0, 1), 1);
            d.move(0, i, 40, 30);
        }
    }

    private static void railFootWithinASide() {
        CHECK.says("nowhere on the SIDES is the FOOT left of a, or right of b");
        DrawnAreas d = new DrawnAreas();
        d.rod(50);
        for (int first = 0; first < 4; first++) {
            // At the upright SIDE's ends the FOOT is at 0, where it crosses THE RAIL at -10.
            Bounds.drawFrom(d, 0, first, 40, 30, 40, -30, 60, -30, 60, 30);
            CHECK.due("rail, a side's midst at -10, begun at " + first, d.rail(0, -10, 20), 1);
            CHECK.due("rail from -9, begun at " + first, d.rail(0, -9, 20), 0);
            CHECK.due("rail from 0, begun at " + first, d.rail(0, 0, 20), 0);
            CHECK.due("rail to 19, begun at " + first, d.rail(0, -10, 19), 0);
        }
    }

    private static void railFootTouches() {
        CHECK.says("nowhere on the SIDES is the FOOT left of a, or right of b");
        DrawnAreas d = new DrawnAreas();
        d.rod(50);
        for (int first = 0; first < 4; first++) {
            // The slanting SIDE touches the ROD's circle round 10, 0 at 40, 40, between its ends.
            Bounds.drawFrom(d, 0, first, 56, 28, 32, 46, 90, 46, 90, 28);
            CHECK.due("rail, touched at 10, begun at " + first, d.rail(0, 10, 1000), 1);
            CHECK.due("rail from 11, begun at " + first, d.rail(0, 11, 1000), 0);
            // At both ends of the slanting SIDE the FOOT is at 10, between them down to 1.29.
            Bounds.drawFrom(d, 0, first, 58, 14, 24, 48, 90, 48, 90, 14);
            CHECK.due("rail, cut off at 10, begun at " + first, d.rail(0, 10, 1000), 0);
            CHECK.due("rail, cut off at 10, from 2, begun at " + first, d.rail(0, 2, 1000), 0);
            CHECK.due("rail, cut off at 10, from 1, begun at " + first, d.rail(0, 1, 1000), 1);
        }
        // As short a SIDE as goes from the circle into it and out again.
        d.rod(5);
        for (int first = 0; first < 4; first++) {
            Bounds.drawFrom(d, 0, first, 3, 4, 4, 3, 60, 3, 60, 4);
            CHECK.due("rail, cut off at 0, begun at " + first, d.rail(0, 0, 1000), 0);
            CHECK.due("rail, cut off at 0, from -1, begun at " + first, d.rail(0, -1, 1000), 1);
            Bounds.drawFrom(d, 0, first, 3, -4, 60, -4, 60, -3, 4, -3);
            CHECK.due("rail, cut off at 0 below, begun at " + first, d.rail(0, 0, 1000), 0);
            CHECK.due("rail, cut off at 0 below, from -1, begun at " + first, d.rail(0, -1, 1000), 1);
        }
    }

    private static void railBetweenWholeNumbers() {
        CHECK.says("(FOOT: x less the root of ROD ROD less y y.)");
        DrawnAreas d = new DrawnAreas();
        d.rod(50);
        // The root of 2499 is 49.98999.
        Bounds.heap(d, 0, 3, 0, 1);
        CHECK.due("rail from -50 to -49", d.rail(0, -50, -49), 1);
        CHECK.due("rail from -49", d.rail(0, -49, 0), 0);
        CHECK.due("rail to -50", d.rail(0, -60, -50), 0);
        d.rod(400);
        // The root of 150399 is 387.8131; of 159999, 399.99875.
        Bounds.heap(d, 0, 3, -100, -98);
        CHECK.due("ROD 400, from -488 to -487", d.rail(0, -488, -487), 1);
        CHECK.due("ROD 400, from -487", d.rail(0, -487, 0), 0);
        CHECK.due("ROD 400, to -488", d.rail(0, -500, -488), 0);
        Bounds.heap(d, 0, 3, -100, 1);
        CHECK.due("ROD 400, from -500 to -499", d.rail(0, -500, -499), 1);
        CHECK.due("ROD 400, to -500", d.rail(0, -500, -500), 0);
    }

    private static void railLeftOfThePointer() {
        CHECK.says("always to the left of the POINTER");
        DrawnAreas d = new DrawnAreas();
        d.rod(50);
        Bounds.heap(d, 0, 3, 0, 30);
        CHECK.due("rail, the foot at -40", d.rail(0, -40, -40), 1);
        CHECK.due("rail, not at 40", d.rail(0, 40, 40), 0);
        CHECK.due("rail, not from 40 on", d.rail(0, 40, 1000), 0);
        CHECK.due("rail from 0 on", d.rail(0, 0, 1000), 0);
        CHECK.due("rail from far right on", d.rail(0, 51, 1000), 0);
    }

    private static void railOnlyIfItCanGo() {
        CHECK.says("Whether it CAN GO with THE RAIL from a to b");
        DrawnAreas d = new DrawnAreas();
        d.rod(7);
        Bounds.heap(d, 0, 3, 0, 7);
        CHECK.due("rail, as far as the rod", d.rail(0, -1000, 1000), 0);
        CHECK.due("rail, as far as the rod, a above b", d.rail(0, 1, 0), -2);
        Bounds.heap(d, 0, 3, 0, 6);
        CHECK.due("rail, 1 less", d.rail(0, -1000, 1000), 1);
        Bounds.heap(d, 0, 3, 0, 99);
        CHECK.due("rail, far above", d.rail(0, -1000, 1000), 0);
    }

    private static void railFarthest() {
        CHECK.says("nowhere on the SIDES is the FOOT left of a, or right of b");
        DrawnAreas d = new DrawnAreas();
        d.rod(400);
        Bounds.heap(d, 0, 3, -100, 0);
        CHECK.due("rail, the foot farthest left", d.rail(0, -500, -500), 1);
        CHECK.due("rail from -499", d.rail(0, -499, 1000), 0);
        d.rod(1);
        Bounds.heap(d, 0, 3, 100, 0);
        CHECK.due("rail, the foot farthest right", d.rail(0, 99, 99), 1);
        CHECK.due("rail to 98", d.rail(0, -1000, 98), 0);
        CHECK.due("rail at 1000", d.rail(0, 1000, 1000), 0);
        CHECK.due("rail at -1000", d.rail(0, -1000, -1000), 0);
    }

    // ---- promise 14

    private static void shutHeights() {
        CHECK.says("F SHUT IN, for a height h of 0 to ROD less 1");
        int[] rods = {1, 2, 3, 149, 150, 399, 400};
        for (int rod : rods) {
            Bounds.range(CHECK, "shut h, ROD " + rod, () -> withRod(rod), 0, rod - 1, LOST - 2, (d, v) -> d.shut(v, 0));
            Bounds.range(CHECK, "shut h, ROD " + rod, () -> withRod(rod), 0, rod - 1, LOST - 2, (d, v) -> d.shut(v, 1));
        }
        DrawnAreas d = new DrawnAreas();
        CHECK.holds("shut(149), ROD 150 at first", d.shut(149, 0) > 0);
        CHECK.due("shut(150), ROD 150 at first", d.shut(150, 0), LOST - 2);
        d.rod(151);
        CHECK.holds("shut(150), ROD 151", d.shut(150, 0) > 0);
    }

    private static DrawnAreas withRod(int rod) {
        DrawnAreas d = new DrawnAreas();
        d.rod(rod);
        return d;
    }

    private static void shutSide() {
        CHECK.says("LOW (side = 0), HIGH (1)");
        Bounds.range(CHECK, "shut side", DrawnAreas::new, 0, 1, LOST - 2, (d, v) -> d.shut(149, v));
        Bounds.range(CHECK, "shut side, h 0", DrawnAreas::new, 0, 1, LOST - 2, (d, v) -> d.shut(0, v));
    }

    private static void shutEmptySums() {
        CHECK.says("LOW, the sum over t from 0 to h - 1");
        int[] rods = {1, 2, 150, 400};
        for (int rod : rods) {
            DrawnAreas d = withRod(rod);
            CHECK.due("LOW of 0, ROD " + rod, d.shut(0, 0), 0);
            CHECK.due("HIGH of 0, ROD " + rod, d.shut(0, 1), 0);
        }
        CHECK.due("LOW of 1: t = 0 alone", withRod(2).shut(1, 0), 0);
        CHECK.due("HIGH of 1: t = 1 alone", withRod(2).shut(1, 1), 1 + 1000000000 / (2 * 1732));
        CHECK.due("HIGH of 1, ROD 400", withRod(400).shut(1, 1), 1 + 1000000000 / (400 * 399998));
    }

    private static long rootOf(long v) {
        long root = (long) Math.sqrt((double) v);
        while (root * root > v) {
            root--;
        }
        while ((root + 1) * (root + 1) <= v) {
            root++;
        }
        return root;
    }

    private static void shutEachCut() {
        CHECK.says("each cut; S(t) the greatest whole number with S S not above 1000000 (ROD ROD less t t)");
        for (int rod = 1; rod <= 400; rod += rod < 20 ? 1 : 19) {
            DrawnAreas d = withRod(rod);
            long low = 0;
            long high = 0;
            for (int h = 0; h < rod; h++) {
                long upper = h * h * 1000000000L;
                long root = rootOf(1000000L * (rod * rod - h * h));
                high += h == 0 ? 0 : 1 + upper / (rod * root);
                CHECK.due("LOW of " + h + ", ROD " + rod, d.shut(h, 0), low);
                CHECK.due("HIGH of " + h + ", ROD " + rod, d.shut(h, 1), high);
                low += upper / (rod * (root + 1));
                d = h % 200 == 199 ? withRod(rod) : d;
            }
        }
    }

    private static void shutWholeRoots() {
        CHECK.says("S(t) the greatest whole number with S S not above 1000000 (ROD ROD less t t)");
        DrawnAreas d = withRod(5);
        CHECK.due("HIGH, S(3) = 4000", d.shut(3, 1) - d.shut(2, 1), 1 + 9000000000L / 20000);
        CHECK.due("LOW, S(3) and 1 = 4001", d.shut(4, 0) - d.shut(3, 0), 9000000000L / 20005);
        d.rod(400);
        CHECK.due("HIGH, S(240) = 320000", d.shut(240, 1) - d.shut(239, 1), 1 + 57600000000000L / 128000000);
        CHECK.due("LOW, S(240) and 1 = 320001", d.shut(241, 0) - d.shut(240, 0), 57600000000000L / 128000400);
    }

    private static void shutLiesBetween() {
        CHECK.says("F times 1000000 lies from LOW to HIGH");
        for (int rod = 1; rod <= 400; rod += 21) {
            DrawnAreas d = withRod(rod);
            for (int h = 0; h < rod; h += 1 + rod / 100) {
                double root = Math.sqrt((double) rod * rod - (double) h * h);
                double f = 1000000 * (rod * Math.asin((double) h / rod) - h * root / rod) / 2;
                CHECK.holds("LOW of " + h + ", ROD " + rod, d.shut(h, 0) <= f + 0.001);
                CHECK.holds("HIGH of " + h + ", ROD " + rod, d.shut(h, 1) >= f - 0.001);
            }
        }
    }

    // ---- promises 15 and 16

    private static void gearedFrom1To3() {
        CHECK.says("GEARED wheels at g (1 to 3)");
        Bounds.range(CHECK, "geared g", Bounds::triangles, 1, 3, LOST - 2, (d, v) -> d.geared(0, v, 0));
        Bounds.range(CHECK, "geared g, lower", Bounds::triangles, 1, 3, LOST - 2, (d, v) -> d.geared(5, v, 1));
    }

    private static void gearedOnlyIfItCanGo() {
        CHECK.says("STATE (not CLOSED, or it can't go), likewise");
        DrawnAreas d = new DrawnAreas();
        Check.draw(d, 0, 0, 0, 5, 0, 5, 7);
        for (int g = 1; g <= 3; g++) {
            d.rod(8);
            CHECK.holds("geared at " + g + ", ROD 8", d.geared(0, g, 0) != LOST - 3);
            d.rod(7);
            CHECK.due("geared at " + g + ", ROD 7", d.geared(0, g, 0), LOST - 3);
            CHECK.due("geared at " + g + ", ROD 7, lower", d.geared(0, g, 1), LOST - 3);
        }
        CHECK.due("geared at 4, ROD 7", d.geared(0, 4, 0), LOST - 2);
        CHECK.due("geared at 1, ROD 7, part 2", d.geared(0, 1, 2), LOST - 2);
    }

    private static void gearedIs(DrawnAreas d, int g, long upper, long lower) {
        CHECK.dueFraction("geared at " + g, d.geared(0, g, 0), d.geared(0, g, 1), upper, lower);
    }

    private static void gearedGreatest() {
        CHECK.says("3: of 3 y by ROD less 4 y y y by (ROD ROD ROD), each along all x");
        DrawnAreas d = new DrawnAreas();
        Bounds.sixTimes(d, 0, -100, -100, 100, 100);
        d.rod(101);
        gearedIs(d, 1, -240000, 101);
        gearedIs(d, 2, 0, 1);
        gearedIs(d, 3, 2255280000L, 1030301);
        d.rod(400);
        gearedIs(d, 1, -600, 1);
        gearedIs(d, 3, -1650, 1);
        d.rod(399);
        // 9600000000 less 720000 ROD ROD by (ROD ROD ROD), 3 in common.
        gearedIs(d, 3, -35008240000L, 21173733);
        Bounds.sixTimes(d, 0, -100, 0, 100, 100);
        d.rod(101);
        gearedIs(d, 2, 24000000, 10201);
        d.copy(0, 0, true);
        gearedIs(d, 2, -24000000, 10201);
    }

    private static void gearedOneIsTheTurn() {
        CHECK.says("ROUND a CLOSED FIGURE: 1: the sum of y by ROD");
        DrawnAreas d = new DrawnAreas();
        Check.draw(d, 0, 1, 2, 6, 5, 3, 9, -4, 8);
        for (int rod = 10; rod < 20; rod++) {
            d.rod(rod);
            gearedIs(d, 1, d.told(0, 4, 0), d.told(0, 4, 1));
        }
    }

    private static void momentFrom0To2() {
        CHECK.says("MOMENT m (0, 1, 2) of a FIGURE");
        Bounds.range(CHECK, "moment m", Bounds::triangles, 0, 2, LOST - 2, (d, v) -> d.moment(0, v, 0));
        Bounds.range(CHECK, "moment m, lower", Bounds::triangles, 0, 2, LOST - 2, (d, v) -> d.moment(5, v, 1));
    }

    private static void momentIs(DrawnAreas d, int m, long upper, long lower) {
        CHECK.dueFraction("moment " + m, d.moment(0, m, 0), d.moment(0, m, 1), upper, lower);
    }

    private static void momentNeedNotGo() {
        CHECK.says("MOMENT m, likewise (it need not go)");
        DrawnAreas d = new DrawnAreas();
        Check.draw(d, 0, 0, 0, 6, 0, 6, 6, 0, 6);
        for (int rod = 1; rod <= 7; rod++) {
            d.rod(rod);
            momentIs(d, 0, 36, 1);
            momentIs(d, 1, 108, 1);
            momentIs(d, 2, 432, 1);
        }
    }

    private static void momentGreatest() {
        CHECK.says("MOMENT m (0, 1, 2) of a FIGURE: less y to the (m and 1) along all x, by (m and 1)");
        DrawnAreas d = new DrawnAreas();
        Bounds.sixTimes(d, 0, -100, -100, 100, 100);
        momentIs(d, 0, 240000, 1);
        momentIs(d, 1, 0, 1);
        momentIs(d, 2, 800000000, 1);
        Bounds.sixTimes(d, 0, -100, -100, 100, 0);
        momentIs(d, 1, -6000000, 1);
        d.copy(0, 0, true);
        momentIs(d, 0, -120000, 1);
        momentIs(d, 1, 6000000, 1);
        momentIs(d, 2, -400000000, 1);
    }

    private static void momentLowestTerms() {
        CHECK.says("in lowest terms, the lower above 0");
        DrawnAreas d = new DrawnAreas();
        Check.draw(d, 0, 0, 0, 1, 0, 0, 1);
        momentIs(d, 0, 1, 2);
        momentIs(d, 1, 1, 6);
        momentIs(d, 2, 1, 12);
        d.copy(0, 0, true);
        momentIs(d, 0, -1, 2);
        momentIs(d, 1, -1, 6);
        momentIs(d, 2, -1, 12);
        Bounds.heap(d, 0, 3, -100, -100);
        momentIs(d, 0, 0, 1);
        momentIs(d, 1, 0, 1);
        momentIs(d, 2, 0, 1);
    }
}
