import java.util.ArrayList;
import java.util.List;

/** The boundary cases of promises 24 and 25, and of "5" under Terms: a method for each sentence that names one. */
public final class JoinedBoundsTest {
    private static final long LOST = DrawnAreas.LOST;
    private static final Check CHECK = new Check("JoinedBoundsTest");

    public static void main(String[] args) {
        figures0To5();
        theyAreOne();
        joinSides();
        joinSidesOfFew();
        joinOnlyIfClosed();
        joinTurnedRound();
        joinEverySide();
        joinUpTo24();
        joinBeyond24();
        joinLeavesTheOther();
        partHeights();
        partOnlyIfClosed();
        partAtHOrAbove();
        partFromBelowToAbove();
        partTouches();
        partLevelSides();
        partWithTheLastSide();
        partWholePlaces();
        partBelow0();
        partNoWholePlace();
        partUpTo24();
        partBeyond24();
        partIntoAnyFigure();
        partOfAllAndNone();
        CHECK.end();
    }

    /** FIGURES 0 to 5: triangles that all have the SIDE between 0, 0 and 10, 0, the odd ones turned. */
    private static DrawnAreas along() {
        DrawnAreas d = new DrawnAreas();
        for (int f = 0; f < 6; f += 2) {
            Check.draw(d, f, 0, 0, 10, 0, 4, 10);
            Check.draw(d, f + 1, 10, 0, 0, 0, 4, -10);
        }
        return d;
    }

    private static void figures0To5() {
        CHECK.says("UNKNOWN -1 (there is no such FIGURE, POINT)");
        Bounds.range(CHECK, "join a", JoinedBoundsTest::along, 0, 5, -1, (d, v) -> d.join(v, 0, v == 3 ? 2 : 3, 0));
        Bounds.range(CHECK, "join b", JoinedBoundsTest::along, 0, 5, -1, (d, v) -> d.join(v == 2 ? 3 : 2, 0, v, 0));
        Bounds.range(CHECK, "part a", JoinedBoundsTest::along, 0, 5, -1, (d, v) -> d.part(v, v == 3 ? 2 : 3, 0));
        Bounds.range(CHECK, "part b", JoinedBoundsTest::along, 0, 5, -1, (d, v) -> d.part(v == 3 ? 2 : 3, v, 0));
        DrawnAreas d = along();
        CHECK.due("join(0, 0, 5, 0)", d.join(0, 0, 5, 0), 4);
        CHECK.due("join(5, 0, 2, 0)", d.join(5, 0, 2, 0), 4);
        CHECK.due("part(0, 5, 0)", d.part(0, 5, 0), 3);
        CHECK.due("part(5, 0, 0)", d.part(5, 0, 0), 3);
    }

    private static void theyAreOne() {
        CHECK.says("UNKNOWN: also they are one");
        DrawnAreas d = along();
        for (int f = 0; f < 6; f++) {
            CHECK.due("join " + f + " with itself", d.join(f, 0, f, 1), -1);
            CHECK.due("part " + f + " into itself", d.part(f, f, 0), -1);
            CHECK.due("its points", d.at(f, -1, 0), 3);
        }
        CHECK.due("join 6 with itself", d.join(6, 0, 6, 0), -1);
        CHECK.due("part 6 into itself", d.part(6, 6, 0), -1);
        d.clear(0);
        CHECK.due("part an empty one into itself", d.part(0, 0, 0), -1);
        // To and fro: its own SIDES are each other's, turned round.
        Check.draw(d, 0, 0, 0, 10, 0, 0, 0, 10, 0);
        CHECK.due("join with itself along sides that fit", d.join(0, 0, 0, 1), -1);
    }

    // ---- promise 24

    private static void joinSides() {
        CHECK.says("UNKNOWN: also they are one, SIDES");
        Bounds.range(CHECK, "join side of 3", JoinedBoundsTest::along, 0, 2, -1, (d, v) -> d.join(0, v, 1, 0));
        Bounds.range(CHECK, "join side2 of 3", JoinedBoundsTest::along, 0, 2, -1, (d, v) -> d.join(0, 0, 1, v));
        Bounds.range(CHECK, "join side of 24", JoinedBoundsTest::fullAndTriangle, 0, 23, -1, (d, v) -> d.join(0, v, 1, 0));
        Bounds.range(CHECK, "join side2 of 24", JoinedBoundsTest::fullAndTriangle, 0, 23, -1, (d, v) -> d.join(1, 0, 0, v));
    }

    private static DrawnAreas fullAndTriangle() {
        DrawnAreas d = Bounds.full();
        Check.draw(d, 1, 0, 0, 10, 0, 4, 10);
        return d;
    }

    private static void joinSidesOfFew() {
        CHECK.says("SIDE i begins at POINT i");
        DrawnAreas d = along();
        for (int n = 0; n < 3; n++) {
            Bounds.heap(d, 0, n, 0, 0);
            for (int side = -1; side <= 3; side++) {
                long due = side < 0 || side >= n ? -1 : -3;
                CHECK.due("join side " + side + " of " + n, d.join(0, side, 1, 0), due);
                CHECK.due("join side2 " + side + " of " + n, d.join(1, 0, 0, side), due);
            }
        }
    }

    private static void joinOnlyIfClosed() {
        CHECK.says("STATE: one is not CLOSED");
        DrawnAreas d = along();
        Check.draw(d, 0, 0, 0, 10, 0);
        CHECK.due("join, a of two points", d.join(0, 0, 1, 0), -3);
        CHECK.due("join, b of two points", d.join(1, 0, 0, 0), -3);
        Check.draw(d, 2, 10, 0, 0, 0);
        CHECK.due("join, both of two points", d.join(0, 0, 2, 0), -3);
        d.point(0, 5, 5);
        CHECK.due("join, a of three points", d.join(0, 0, 1, 0), 4);
    }

    private static void joinTurnedRound() {
        CHECK.says("if the one is the other turned round (POINTS the same)");
        DrawnAreas d = along();
        CHECK.due("join along the same way", d.join(0, 0, 2, 0), -5);
        for (int side = 0; side < 3; side++) {
            for (int side2 = 0; side2 < 3; side2++) {
                if (side != 0 || side2 != 0) {
                    CHECK.due("join sides " + side + ", " + side2, d.join(0, side, 1, side2), -5);
                }
            }
        }
        int[] off = {11, 0, 9, 0, 10, 1, 10, -1};
        for (int k = 0; k < off.length; k += 2) {
            d.move(1, 0, off[k], off[k + 1]);
            CHECK.due("join, its end 1 off, " + k, d.join(0, 0, 1, 0), -5);
        }
        d.move(1, 0, 10, 0);
        int[] off2 = {1, 0, -1, 0, 0, 1, 0, -1};
        for (int k = 0; k < off2.length; k += 2) {
            d.move(1, 1, off2[k], off2[k + 1]);
            CHECK.due("join, its beginning 1 off, " + k, d.join(0, 0, 1, 0), -5);
        }
        d.move(1, 1, 0, 0);
        CHECK.due("join, as it was", d.join(0, 0, 1, 0), 4);
        CHECK.duePoints("joined", d, 0, 0, 0, 4, -10, 10, 0, 4, 10);
    }

    /** n POINTS for a, m for b; SIDE side2 of b is SIDE side of a turned round. */
    private static List<int[]> joinable(DrawnAreas d, int n, int side, int m, int side2) {
        int[][] a = new int[n][];
        int[][] b = new int[m][];
        for (int i = 0; i < n; i++) {
            a[i] = new int[] {i, 2 * i};
        }
        for (int k = 0; k < m; k++) {
            b[(side2 + k) % m] = k == 0 ? a[(side + 1) % n] : k == 1 ? a[side] : new int[] {-k, 50 + k};
        }
        List<int[]> due = new ArrayList<>();
        for (int i = 0; i < n; i++) {
            due.add(a[i]);
            for (int k = 2; k < m && i == side; k++) {
                due.add(b[(side2 + k) % m]);
            }
        }
        drawAll(d, 3, a);
        drawAll(d, 4, b);
        return due;
    }

    private static void drawAll(DrawnAreas d, int figure, int[][] points) {
        d.clear(figure);
        for (int[] p : points) {
            d.point(figure, p[0], p[1]);
        }
    }

    private static void joinedAs(DrawnAreas d, String which, int side, int side2, List<int[]> due) {
        CHECK.due("join " + which, d.join(3, side, 4, side2), due.size());
        CHECK.due("how many, " + which, d.at(3, -1, 0), due.size());
        for (int i = 0; i < due.size(); i++) {
            CHECK.due("x of " + i + ", " + which, d.at(3, i, 0), due.get(i)[0]);
            CHECK.due("y of " + i + ", " + which, d.at(3, i, 1), due.get(i)[1]);
        }
    }

    private static void joinEverySide() {
        CHECK.says("a's POINTS up to that SIDE's beginning, then b's from its SIDE's end on");
        for (int n = 3; n <= 5; n++) {
            for (int m = 3; m <= 6; m++) {
                for (int both = 0; both < n * m; both++) {
                    DrawnAreas d = new DrawnAreas();
                    List<int[]> due = joinable(d, n, both / m, m, both % m);
                    joinedAs(d, n + " at " + both / m + " and " + m + " at " + both % m, both / m, both % m, due);
                }
            }
        }
    }

    private static void joinUpTo24() {
        CHECK.says("FULL: more than 24");
        for (int n = 3; n <= 23; n++) {
            int m = 26 - n;
            int[] sides = {0, n / 2, n - 1};
            for (int side : sides) {
                int side2 = (side * 7 + 1) % m;
                DrawnAreas d = new DrawnAreas();
                List<int[]> due = joinable(d, n, side, m, side2);
                joinedAs(d, n + " at " + side + " and " + m + " at " + side2, side, side2, due);
                CHECK.due("full", d.point(3, 0, 0), -4);
            }
        }
    }

    private static void joinBeyond24() {
        CHECK.says("FULL: more than 24");
        for (int n = 3; n <= 24; n++) {
            DrawnAreas d = new DrawnAreas();
            int m = 27 - n;
            joinable(d, n, n - 1, m, m - 1);
            CHECK.due("join " + n + " and " + m, d.join(3, n - 1, 4, m - 1), -4);
            CHECK.due("join " + n + " and " + m + ", sides not the same", d.join(3, 0, 4, 0), -4);
            CHECK.due("as many as before", d.at(3, -1, 0), n);
            CHECK.due("b as many as before", d.at(4, -1, 0), m);
            CHECK.due("its last stays", d.at(3, n - 1, 1), 2 * n - 2);
        }
        DrawnAreas d = Bounds.full();
        CHECK.due("join 24 and 24", d.join(0, 0, 5, 0), -4);
    }

    private static void joinLeavesTheOther() {
        CHECK.says("JOINED, into FIGURE a: its POINTS");
        DrawnAreas d = along();
        CHECK.due("join(0, 0, 1, 0)", d.join(0, 0, 1, 0), 4);
        CHECK.duePoints("b stays", d, 1, 10, 0, 0, 0, 4, -10);
        CHECK.due("areas are added", d.twice(0), 200);
        CHECK.due("the side is gone", d.join(0, 0, 1, 0), -5);
    }

    // ---- promise 25

    private static void partHeights() {
        CHECK.says("OUTSIDE: h -100 to 100");
        Bounds.range(CHECK, "part h", Bounds::triangles, -100, 100, -2, (d, v) -> d.part(0, 1, v));
    }

    private static void partOnlyIfClosed() {
        CHECK.says("STATE: not CLOSED");
        DrawnAreas d = new DrawnAreas();
        for (int n = 0; n <= 3; n++) {
            CHECK.due("part of " + n, d.part(0, 1, -5), n < 3 ? -3 : 3);
            d.point(0, n, n);
        }
    }

    private static void partIs(DrawnAreas d, int h, int... xy) {
        CHECK.due("part at " + h, d.part(0, 1, h), xy.length / 2);
        CHECK.duePoints("parted at " + h, d, 1, xy);
    }

    private static void partAtHOrAbove() {
        CHECK.says("of the POINTS of a FIGURE those at h or above it, as they come");
        DrawnAreas d = new DrawnAreas();
        Check.draw(d, 0, 1, 0, 2, 1, 3, 2, 4, 3, 5, 4);
        partIs(d, -1, 1, 0, 2, 1, 3, 2, 4, 3, 5, 4);
        partIs(d, 0, 1, 0, 2, 1, 3, 2, 4, 3, 5, 4);
        partIs(d, 1, 2, 1, 3, 2, 4, 3, 5, 4, 2, 1);
        partIs(d, 2, 3, 2, 4, 3, 5, 4, 3, 2);
        partIs(d, 3, 4, 3, 5, 4, 4, 3);
        partIs(d, 4, 5, 4);
        partIs(d, 5);
    }

    private static void partFromBelowToAbove() {
        CHECK.says("and between them the places at which SIDES go from below h to above it, or back");
        DrawnAreas d = new DrawnAreas();
        Check.draw(d, 0, 0, -1, 2, 1, 4, -1, 6, 1, 8, -1);
        partIs(d, 0, 1, 0, 2, 1, 3, 0, 5, 0, 6, 1, 7, 0);
        d.copy(0, 0, true);
        partIs(d, 0, 7, 0, 6, 1, 5, 0, 3, 0, 2, 1, 1, 0);
        CHECK.due("part 1 below", d.part(0, 1, -1), 5);
        CHECK.due("part 1 above", d.part(0, 1, 1), 2);
    }

    private static void partTouches() {
        CHECK.says("SIDES go from below h to above it, or back");
        DrawnAreas d = new DrawnAreas();
        // From below to h and back below; from above to h and back above; from below to h and on above.
        Check.draw(d, 0, 0, -5, 3, 0, 6, -5, 9, 0, 12, 5, 15, 0, 18, 5, 20, 0);
        partIs(d, 0, 3, 0, 9, 0, 12, 5, 15, 0, 18, 5, 20, 0);
        Check.draw(d, 0, 0, -5, 7, -5, 3, 0);
        partIs(d, 0, 3, 0);
        Check.draw(d, 0, 0, 5, 7, 5, 3, 0);
        partIs(d, 0, 0, 5, 7, 5, 3, 0);
    }

    private static void partLevelSides() {
        CHECK.says("those at h or above it, as they come");
        DrawnAreas d = new DrawnAreas();
        Check.draw(d, 0, 0, 0, 10, 0, 10, 10, 0, 10);
        partIs(d, 0, 0, 0, 10, 0, 10, 10, 0, 10);
        partIs(d, 10, 10, 10, 0, 10);
        partIs(d, 1, 10, 1, 10, 10, 0, 10, 0, 1);
        partIs(d, 9, 10, 9, 10, 10, 0, 10, 0, 9);
        partIs(d, 11);
        Check.draw(d, 0, 0, 4, 5, 4, 9, 4);
        partIs(d, 4, 0, 4, 5, 4, 9, 4);
        partIs(d, 5);
        Bounds.heap(d, 0, 24, 7, 7);
        CHECK.due("part a heap of 24 at its height", d.part(0, 1, 7), 24);
        CHECK.due("part a heap of 24 above its height", d.part(0, 1, 8), 0);
    }

    private static void partWithTheLastSide() {
        CHECK.says("SIDES go from each POINT to the next, from the last to the first");
        DrawnAreas d = new DrawnAreas();
        int[] xy = {0, 0, 10, 0, 5, 10};
        Bounds.drawFrom(d, 0, 0, xy);
        partIs(d, 4, 8, 4, 5, 10, 2, 4);
        Bounds.drawFrom(d, 0, 1, xy);
        partIs(d, 4, 8, 4, 5, 10, 2, 4);
        Bounds.drawFrom(d, 0, 2, xy);
        partIs(d, 4, 5, 10, 2, 4, 8, 4);
    }

    private static void partWholePlaces() {
        CHECK.says("(only if these are whole)");
        DrawnAreas d = new DrawnAreas();
        Check.draw(d, 0, -100, -100, 100, 100, 100, -100);
        for (int h = -99; h < 100; h++) {
            CHECK.due("part at " + h, d.part(0, 1, h), 3);
            CHECK.due("its place at " + h, d.at(1, 0, 0), h);
            if (h % 50 == 49) {
                d = new DrawnAreas();
                Check.draw(d, 0, -100, -100, 100, 100, 100, -100);
            }
        }
        d = new DrawnAreas();
        // 3 along for 7 up: whole at every seventh height.
        Check.draw(d, 0, 0, -7, 9, 14, 0, 14);
        for (int h = -6; h < 14; h++) {
            CHECK.due("3 by 7, part at " + h, d.part(0, 1, h), h % 7 == 0 ? 4 : -5);
        }
    }

    private static void partBelow0() {
        CHECK.says("(only if these are whole)");
        DrawnAreas d = new DrawnAreas();
        Check.draw(d, 0, -5, -1, -3, 1, -9, 1);
        partIs(d, 0, -4, 0, -3, 1, -9, 1, -7, 0);
        Check.draw(d, 0, -20, -12, -26, -6, -30, -10, -30, -12);
        partIs(d, -8, -24, -8, -26, -6, -28, -8);
        Check.draw(d, 0, 0, -1, -1, 1, 3, 1, 2, -1);
        CHECK.due("at -1/2 and 5/2", d.part(0, 1, 0), -5);
    }

    private static void partNoWholePlace() {
        CHECK.says("NO: a SIDE crosses h at no whole place");
        DrawnAreas d = new DrawnAreas();
        Bounds.heap(d, 1, 2, 77, 77);
        for (int first = 0; first < 4; first++) {
            Bounds.drawFrom(d, 0, first, 0, -1, 1, 1, 1, 9, 0, 9);
            CHECK.due("one of them, begun at " + first, d.part(0, 1, 0), -5);
            d.copy(0, 0, true);
            CHECK.due("one of them, turned, begun at " + first, d.part(0, 1, 0), -5);
        }
        CHECK.duePoints("refused", d, 1, 77, 77, 77, 77);
        // The SIDE that would be at no whole place only ends at h.
        Check.draw(d, 0, 0, -2, 1, 0, 1, 9, 0, 9);
        partIs(d, 0, 1, 0, 1, 9, 0, 9, 0, 0);
    }

    /** So many lows, each followed by a high, then highs alone: 2 crossings at 0 for each low. */
    private static void comb(DrawnAreas d, int lows, int highs, int wide) {
        d.clear(0);
        for (int i = 0; i < highs; i++) {
            if (i < lows) {
                d.point(0, 2 * i * wide, -1);
            }
            d.point(0, (2 * i + 1) * wide, 1);
        }
    }

    private static void partUpTo24() {
        CHECK.says("FULL: more than 24");
        DrawnAreas d = new DrawnAreas();
        comb(d, 8, 8, 2);
        CHECK.due("8 highs, 16 crossings", d.part(0, 1, 0), 24);
        CHECK.due("its last", d.at(1, 23, 0), 15);
        comb(d, 1, 22, 2);
        CHECK.due("22 highs, 2 crossings", d.part(0, 1, 0), 24);
        CHECK.due("full", d.point(1, 0, 0), -4);
        d.move(0, 21, 44, 0);
        CHECK.due("21 highs, one at h, 2 crossings", d.part(0, 1, 0), 24);
        comb(d, 0, 24, 2);
        CHECK.due("24 highs", d.part(0, 1, 0), 24);
        comb(d, 12, 12, 2);
        CHECK.due("12 highs, the lows at h", d.part(0, 1, -1), 24);
        CHECK.due("12 highs at h", d.part(0, 1, 1), 12);
    }

    private static void partBeyond24() {
        CHECK.says("FULL: more than 24");
        DrawnAreas d = new DrawnAreas();
        Bounds.heap(d, 1, 5, 3, 3);
        comb(d, 8, 9, 2);
        CHECK.due("9 highs, 16 crossings", d.part(0, 1, 0), -4);
        comb(d, 1, 23, 2);
        CHECK.due("23 highs, 2 crossings", d.part(0, 1, 0), -4);
        d.move(0, 22, 44, 0);
        CHECK.due("22 highs, one at h, 2 crossings", d.part(0, 1, 0), -4);
        comb(d, 12, 12, 2);
        CHECK.due("12 highs, 24 crossings", d.part(0, 1, 0), -4);
        comb(d, 9, 9, 2);
        CHECK.due("9 highs, 18 crossings", d.part(0, 1, 0), -4);
        d.move(0, 0, 1, -1);
        CHECK.due("9 highs, 16 crossings, 2 at no whole place: FULL first", d.part(0, 1, 0), -4);
        CHECK.due("refused", d.at(1, -1, 0), 5);
    }

    private static void partIntoAnyFigure() {
        CHECK.says("PARTED, into FIGURE b: its POINTS");
        DrawnAreas d = Bounds.full();
        Check.draw(d, 1, 0, 0, 10, 0, 5, 10);
        CHECK.due("into a full one", d.part(1, 0, 4), 3);
        CHECK.duePoints("parted", d, 0, 8, 4, 5, 10, 2, 4);
        CHECK.duePoints("a stays", d, 1, 0, 0, 10, 0, 5, 10);
        CHECK.due("its next number", d.point(0, 9, 9), 3);
        CHECK.due("into an empty one", d.part(1, 4, 4), 3);
        CHECK.due("the other full one stays", d.at(5, -1, 0), 24);
    }

    private static void partOfAllAndNone() {
        CHECK.says("as a FIGURE");
        DrawnAreas d = new DrawnAreas();
        Check.draw(d, 0, -100, -100, 100, -100, 100, 100, -100, 100);
        partIs(d, -100, -100, -100, 100, -100, 100, 100, -100, 100);
        partIs(d, 100, 100, 100, -100, 100);
        CHECK.due("twice of two", d.twice(1), LOST - 3);
        partIs(d, 99, 100, 99, 100, 100, -100, 100, -100, 99);
        CHECK.due("twice of four", d.twice(1), 400);
        Check.draw(d, 0, 0, 0, 1, 0, 0, 1);
        partIs(d, 100);
        CHECK.due("clear of none", d.clear(1), 0);
        partIs(d, -100, 0, 0, 1, 0, 0, 1);
    }
}
