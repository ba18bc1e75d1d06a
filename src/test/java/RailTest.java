/** Promises 10 to 16. */
public final class RailTest {
    private static final long LOST = DrawnAreas.LOST;
    private static final Check CHECK = new Check("RailTest");

    public static void main(String[] args) {
        rod();
        told();
        can();
        rail();
        shut();
        geared();
        moment();
        CHECK.end();
    }

    private static void rod() {
        DrawnAreas d = new DrawnAreas();
        CHECK.due("rod(0)", d.rod(0), -2);
        CHECK.due("rod(401)", d.rod(401), -2);
        CHECK.due("rod(-1)", d.rod(-1), -2);
        CHECK.due("rod(1)", d.rod(1), 150);
        CHECK.due("rod(400)", d.rod(400), 1);
        CHECK.due("rod(7)", d.rod(7), 400);
    }

    private static void told() {
        DrawnAreas d = new DrawnAreas();
        CHECK.due("told(6, 99, 9): UNKNOWN first", d.told(6, 99, 9), LOST - 1);
        CHECK.due("told(-1, 0, 0)", d.told(-1, 0, 0), LOST - 1);
        Check.draw(d, 0, 0, 0, 4, 2);
        CHECK.due("told after 3 of 2: OUTSIDE before STATE", d.told(0, 3, 0), LOST - 2);
        CHECK.due("told after 2 of 2, not closed", d.told(0, 2, 0), LOST - 3);
        d.point(0, 0, 6);
        CHECK.due("told n -1", d.told(0, -1, 0), LOST - 2);
        CHECK.due("told n 4", d.told(0, 4, 0), LOST - 2);
        CHECK.due("told part 2", d.told(0, 3, 2), LOST - 2);
        CHECK.due("told part -1", d.told(0, 3, -1), LOST - 2);
        d.rod(7);
        toldIs(d, 0, 0, 1);
        toldIs(d, 1, 4, 7);
        toldIs(d, 2, -12, 7);
        toldIs(d, 3, -12, 7);
        d.rod(400);
        toldIs(d, 3, -3, 100);
        d.rod(6);
        CHECK.due("told, can't go", d.told(0, 0, 0), LOST - 3);
        CHECK.due("told, can't go, n 4: OUTSIDE first", d.told(0, 4, 0), LOST - 2);
    }

    private static void toldIs(DrawnAreas d, int n, long upper, long lower) {
        CHECK.dueFraction("told after " + n, d.told(0, n, 0), d.told(0, n, 1), upper, lower);
    }

    private static void can() {
        DrawnAreas d = new DrawnAreas();
        CHECK.due("can(6)", d.can(6), -1);
        CHECK.due("can(-1)", d.can(-1), -1);
        Check.draw(d, 0, 0, 10, 5, -12);
        CHECK.due("can of two points", d.can(0), -3);
        d.point(0, 9, 0);
        d.rod(13);
        CHECK.due("can, rod 13", d.can(0), 1);
        d.rod(12);
        CHECK.due("can, a point below as far as the rod", d.can(0), 0);
        d.move(0, 1, 5, -11);
        CHECK.due("can, moved nearer", d.can(0), 1);
        d.move(0, 2, 9, 12);
        d.move(0, 0, 0, -12);
        CHECK.due("can, the last and the first point as far as the rod", d.can(0), 0);
        d.move(0, 2, 9, 11);
        CHECK.due("can, the first point alone as far as the rod", d.can(0), 0);
        d.move(0, 0, 0, 11);
        CHECK.due("can, all nearer", d.can(0), 1);
        d.move(0, 2, 9, 12);
        CHECK.due("can, the last point above as far as the rod", d.can(0), 0);
    }

    private static void rail() {
        DrawnAreas d = new DrawnAreas();
        CHECK.due("rail(6, 1, 0): UNKNOWN first", d.rail(6, 1, 0), -1);
        CHECK.due("rail(-1, 0, 0)", d.rail(-1, 0, 0), -1);
        CHECK.due("rail a above b: OUTSIDE before STATE", d.rail(0, 1, 0), -2);
        CHECK.due("rail a -1001", d.rail(0, -1001, 0), -2);
        CHECK.due("rail b 1001", d.rail(0, 0, 1001), -2);
        CHECK.due("rail a 1001", d.rail(0, 1001, 1001), -2);
        CHECK.due("rail b -1001", d.rail(0, -1001, -1001), -2);
        Check.draw(d, 0, 40, 30, 40, -30);
        CHECK.due("rail of two points", d.rail(0, -1000, 1000), -3);
        d.point(0, 50, 0);
        d.rod(50);
        // FOOT: 0 at both ends of SIDE 0, but -10 in its midst; 0 at POINT 2.
        CHECK.due("the foot is left of 0 in a side's midst", d.rail(0, 0, 0), 0);
        CHECK.due("from -10 to 0", d.rail(0, -10, 0), 1);
        CHECK.due("from -9", d.rail(0, -9, 0), 0);
        CHECK.due("to -1", d.rail(0, -10, -1), 0);
        CHECK.due("the whole rail", d.rail(0, -1000, 1000), 1);
        CHECK.due("a rail far to the right", d.rail(0, 1000, 1000), 0);
        CHECK.due("a rail far to the left", d.rail(0, -1000, -1000), 0);
        Check.draw(d, 0, 70, 10, 100, 40, -10, 50);
        CHECK.due("can't go: 0, no refusal", d.rail(0, -1000, 1000), 0);
        Check.draw(d, 0, 46, 28, 14, 49, 100, 49, 100, 28);
        CHECK.due("a slanting side through the circle", d.rail(0, 0, 1000), 0);
        // SIDE 0 touches the ROD's circle round 0, 0 at 30, 40 and stays outside it.
        Check.draw(d, 0, 46, 28, 22, 46, 100, 46, 100, 28);
        CHECK.due("a slanting side that touches the circle", d.rail(0, 0, 1000), 1);
        CHECK.due("a slanting side, 1 to the right", d.rail(0, 1, 1000), 0);
        CHECK.due("right end at 80.4, to 81", d.rail(0, 0, 81), 1);
        CHECK.due("right end at 80.4, to 80", d.rail(0, 0, 80), 0);
        Check.draw(d, 0, 90, 40, 0, 0, 20, 0);
        CHECK.due("the first point alone is farthest right, to 60", d.rail(0, -50, 60), 1);
        CHECK.due("the first point alone is farthest right, to 59", d.rail(0, -50, 59), 0);
        CHECK.due("the second point is farthest left", d.rail(0, -49, 60), 0);
        // Both ends of SIDE 0 have the FOOT at 0, between them it is a little left of it.
        Check.draw(d, 0, 3, 4, 4, 3, 60, 3, 60, 4);
        d.rod(5);
        CHECK.due("a short side through the circle", d.rail(0, 0, 1000), 0);
        CHECK.due("a short side, from -1 on", d.rail(0, -1, 1000), 1);
        d.rod(50);
        // The POINTER itself is left of a, though outside the circle: its FOOT is farther left.
        Check.draw(d, 0, -60, 10, -60, -10, -70, 0);
        CHECK.due("all left of the rail", d.rail(0, 0, 1000), 0);
    }

    private static void shut() {
        DrawnAreas d = new DrawnAreas();
        d.rod(3);
        CHECK.due("shut h 3", d.shut(3, 0), LOST - 2);
        CHECK.due("shut h -1", d.shut(-1, 0), LOST - 2);
        CHECK.due("shut side 2", d.shut(0, 2), LOST - 2);
        CHECK.due("shut side -1", d.shut(0, -1), LOST - 2);
        // S(1) = 2828, S(2) = 2236.
        CHECK.due("shut(0, 0)", d.shut(0, 0), 0);
        CHECK.due("shut(0, 1)", d.shut(0, 1), 0);
        CHECK.due("shut(1, 0)", d.shut(1, 0), 0);
        CHECK.due("shut(1, 1)", d.shut(1, 1), 1 + 1000000000 / 8484);
        CHECK.due("shut(2, 0)", d.shut(2, 0), 1000000000 / 8487);
        CHECK.due("shut(2, 1)", d.shut(2, 1), 1 + 1000000000 / 8484 + 1 + 4000000000L / 6708);
        d.rod(5);
        // S(3) = 4000, S(4) = 3000: whole roots.
        CHECK.due("shut at whole roots, low", d.shut(4, 0) - d.shut(3, 0), 9000000000L / (5 * 4001));
        CHECK.due("shut at whole roots, high", d.shut(4, 1) - d.shut(3, 1), 1 + 16000000000L / (5 * 3000));
        d.rod(400);
        CHECK.due("shut of the longest rod, low", d.shut(399, 0), 279438296);
        CHECK.due("shut of the longest rod, high", d.shut(399, 1), 293521443);
        CHECK.due("shut h as long as the rod", d.shut(400, 1), LOST - 2);
        d.rod(1);
        CHECK.due("shut of the shortest rod", d.shut(0, 1), 0);
        CHECK.due("shut of the shortest rod, h 1", d.shut(1, 1), LOST - 2);
    }

    private static void geared() {
        DrawnAreas d = new DrawnAreas();
        CHECK.due("geared(6, 0, 0): UNKNOWN first", d.geared(6, 0, 0), LOST - 1);
        CHECK.due("geared(-1, 1, 0)", d.geared(-1, 1, 0), LOST - 1);
        CHECK.due("geared g 0: OUTSIDE before STATE", d.geared(0, 0, 0), LOST - 2);
        CHECK.due("geared g 4", d.geared(0, 4, 0), LOST - 2);
        CHECK.due("geared part 2", d.geared(0, 1, 2), LOST - 2);
        CHECK.due("geared part -1", d.geared(0, 1, -1), LOST - 2);
        CHECK.due("geared, not closed", d.geared(0, 1, 0), LOST - 3);
        Check.draw(d, 0, 0, 1, 2, 1, 2, 3, 0, 3);
        d.rod(3);
        CHECK.due("geared, can't go", d.geared(0, 1, 0), LOST - 3);
        d.rod(4);
        // y: 2 1 - 2 3 = -4; yy: 2 1 - 2 9 = -16; yyy: 2 1 - 2 27 = -52.
        gearedIs(d, 1, -1, 1);
        gearedIs(d, 2, 2, 1);
        gearedIs(d, 3, 1, 4);
        d.rod(7);
        gearedIs(d, 1, -4, 7);
        gearedIs(d, 2, 32, 49);
        gearedIs(d, 3, 208 - 12 * 49, 343);
        Check.draw(d, 0, 0, 0, 3, 1, 0, 2);
        // y: 3 1/2 - 3 3/2 = -3; yy: 3 1/3 - 3 7/3 = -6; yyy: 3 1/4 - 3 15/4 = -21/2.
        gearedIs(d, 1, -3, 7);
        gearedIs(d, 2, 12, 49);
        gearedIs(d, 3, 42 - 9 * 49, 343);
    }

    private static void gearedIs(DrawnAreas d, int g, long upper, long lower) {
        long common = java.math.BigInteger.valueOf(upper).gcd(java.math.BigInteger.valueOf(lower)).longValue();
        CHECK.dueFraction("geared at " + g, d.geared(0, g, 0), d.geared(0, g, 1), upper / common, lower / common);
    }

    private static void moment() {
        DrawnAreas d = new DrawnAreas();
        CHECK.due("moment(6, 3, 0): UNKNOWN first", d.moment(6, 3, 0), LOST - 1);
        CHECK.due("moment(-1, 0, 0)", d.moment(-1, 0, 0), LOST - 1);
        CHECK.due("moment m 3: OUTSIDE before STATE", d.moment(0, 3, 0), LOST - 2);
        CHECK.due("moment m -1", d.moment(0, -1, 0), LOST - 2);
        CHECK.due("moment part 2", d.moment(0, 0, 2), LOST - 2);
        CHECK.due("moment part -1", d.moment(0, 0, -1), LOST - 2);
        CHECK.due("moment, not closed", d.moment(0, 0, 0), LOST - 3);
        Check.draw(d, 0, 0, 0, 3, 1, 0, 2);
        d.rod(1);
        momentIs(d, 0, 3, 1);
        momentIs(d, 1, 3, 1);
        momentIs(d, 2, 7, 2);
        Check.draw(d, 0, -100, -100, 100, -100, 100, 100, -100, 100);
        momentIs(d, 0, 40000, 1);
        momentIs(d, 1, 0, 1);
        momentIs(d, 2, 400000000, 3);
        d.copy(0, 0, true);
        momentIs(d, 2, -400000000, 3);
    }

    private static void momentIs(DrawnAreas d, int m, long upper, long lower) {
        CHECK.dueFraction("moment " + m, d.moment(0, m, 0), d.moment(0, m, 1), upper, lower);
    }
}
