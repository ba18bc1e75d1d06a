/** The boundary cases of promises 20 to 23, and of "4" under Terms: a method for each sentence that names one. */
public final class TeethBoundsTest {
    private static final long LOST = DrawnAreas.LOST;
    private static final Check CHECK = new Check("TeethBoundsTest");

    public static void main(String[] args) {
        figures0To5();
        closedFrom3On();
        teethNumbers();
        teethRefusedStay();
        countCut();
        countItsSize();
        countGreatest();
        countOnlyIfItCanGo();
        countWithTheLastSide();
        mayNumbers();
        mayLowestTerms();
        mayAtLeast0();
        mayBelow();
        mayGreatest();
        fitsNumbers();
        fitsFromOn();
        fitsBelow();
        fitsAtLeast0();
        fitsItsSize();
        fitsNeedNotGo();
        fitsGreatest();
        fitsWhatIsCounted();
        CHECK.end();
    }

    private static void figures0To5() {
        CHECK.says("UNKNOWN -1 (there is no such FIGURE, POINT)");
        Bounds.range(CHECK, "count figure", Bounds::triangles, 0, 5, LOST - 1, (d, v) -> d.count(v));
        Bounds.range(CHECK, "fits figure", Bounds::triangles, 0, 5, -1, (d, v) -> d.fits(v, 0, 0, 0));
    }

    private static void closedFrom3On() {
        CHECK.says("A FIGURE is CLOSED, if it has 3 POINTS or more");
        DrawnAreas d = new DrawnAreas();
        for (int n = 0; n <= 3; n++) {
            CHECK.due("count of " + n, d.count(0), n < 3 ? LOST - 3 : 0);
            CHECK.due("fits of " + n, d.fits(0, 0, 0, 0), n < 3 ? -3 : 1);
            d.point(0, 7, 7);
        }
    }

    // ---- promise 20

    private static void teethNumbers() {
        CHECK.says("a wheel round U long (1 to 1000; 60 at first) with T TEETH (1 to 10000; 1000)");
        Bounds.range(CHECK, "teeth u", DrawnAreas::new, 1, 1000, -2, (d, v) -> d.teeth(v, 1));
        Bounds.range(CHECK, "teeth t", DrawnAreas::new, 1, 10000, -2, (d, v) -> d.teeth(1, v));
        DrawnAreas d = new DrawnAreas();
        d.rod(1);
        mayIs(d, 1, 0, 0, 0, 3, 50);
        CHECK.due("teeth(1, 1)", d.teeth(1, 1), 1);
        mayIs(d, 1, 0, 0, 0, 1, 1);
        CHECK.due("teeth(1000, 1)", d.teeth(1000, 1), 1);
        mayIs(d, 1, 0, 0, 0, 1000, 1);
        CHECK.due("teeth(1, 10000)", d.teeth(1, 10000), 1);
        mayIs(d, 1, 0, 0, 0, 1, 10000);
        CHECK.due("teeth(1000, 10000)", d.teeth(1000, 10000), 1);
        mayIs(d, 1, 0, 0, 0, 1, 10);
        CHECK.due("teeth(999, 9999)", d.teeth(999, 9999), 1);
        mayIs(d, 1, 0, 0, 0, 111, 1111);
    }

    private static void teethRefusedStay() {
        CHECK.says("U, T: 1. OUTSIDE.");
        int[][] wrong = {{0, 5}, {1001, 5}, {5, 0}, {5, 10001}, {-1, 5}, {5, -1}, {0, 0}, {1001, 10001}};
        for (int[] w : wrong) {
            DrawnAreas d = new DrawnAreas();
            d.rod(1);
            d.teeth(7, 13);
            CHECK.due("teeth(" + w[0] + ", " + w[1] + ")", d.teeth(w[0], w[1]), -2);
            mayIs(d, 1, 0, 0, 0, 7, 13);
        }
    }

    // ---- promise 21

    private static void countIs(DrawnAreas d, int u, int t, int rod, long want) {
        d.teeth(u, t);
        d.rod(rod);
        CHECK.due("count, U " + u + ", T " + t + ", ROD " + rod, d.count(0), want);
    }

    private static void countCut() {
        CHECK.says("THE TURN (its size) times T by U, cut");
        DrawnAreas d = new DrawnAreas();
        // THE AREA is 60.
        Check.draw(d, 0, 0, 0, 12, 0, 12, 5, 0, 5);
        countIs(d, 1, 1, 6, 10);
        countIs(d, 1, 1, 59, 1);
        countIs(d, 1, 1, 60, 1);
        countIs(d, 1, 1, 61, 0);
        countIs(d, 10, 1, 6, 1);
        countIs(d, 11, 1, 6, 0);
        countIs(d, 9, 1, 6, 1);
        countIs(d, 5, 1, 6, 2);
        countIs(d, 60, 59, 60, 0);
        countIs(d, 60, 60, 60, 1);
        countIs(d, 60, 119, 60, 1);
        countIs(d, 60, 120, 60, 2);
        countIs(d, 7, 1000, 6, 1428);
        // THE AREA is a half.
        Check.draw(d, 0, 0, 0, 1, 0, 0, 1);
        countIs(d, 1, 3, 2, 0);
        countIs(d, 1, 4, 2, 1);
        countIs(d, 1, 10000, 400, 12);
    }

    private static void countItsSize() {
        CHECK.says("THE TURN (its size) times T by U, cut");
        DrawnAreas d = new DrawnAreas();
        Check.draw(d, 0, 0, 0, 12, 0, 12, 5, 0, 5);
        countIs(d, 7, 1000, 6, 1428);
        d.copy(0, 0, true);
        countIs(d, 7, 1000, 6, 1428);
        countIs(d, 11, 1, 6, 0);
        Check.draw(d, 0, 0, 0, 4, 4, 4, 0, 0, 4);
        countIs(d, 1, 10000, 6, 0);
    }

    private static void countGreatest() {
        CHECK.says("COUNT of a CLOSED FIGURE on THE RAIL");
        DrawnAreas d = new DrawnAreas();
        Bounds.sixTimes(d, 0, -100, -100, 100, 100);
        countIs(d, 1, 10000, 101, 2400000000L / 101);
        countIs(d, 1000, 1, 400, 0);
        countIs(d, 600, 1, 400, 1);
        countIs(d, 601, 1, 400, 0);
        d.copy(0, 0, true);
        countIs(d, 1, 10000, 101, 2400000000L / 101);
    }

    private static void countOnlyIfItCanGo() {
        CHECK.says("COUNT. UNKNOWN, STATE, as told() (LOST less 1, 3)");
        DrawnAreas d = new DrawnAreas();
        Check.draw(d, 0, 0, -9, 12, -9, 12, 9);
        countIs(d, 1, 1, 9, LOST - 3);
        countIs(d, 1, 1, 8, LOST - 3);
        countIs(d, 1, 1, 10, 10);
    }

    private static void countWithTheLastSide() {
        CHECK.says("SIDES go from each POINT to the next, from the last to the first");
        DrawnAreas d = new DrawnAreas();
        for (int first = 0; first < 4; first++) {
            // THE AREA is 1800.
            Bounds.drawFrom(d, 0, first, 10, 10, 40, 20, 30, 60, -20, 50);
            countIs(d, 1, 1, 100, 18);
            countIs(d, 1, 1, 61, 29);
        }
    }

    // ---- promise 22

    private static void mayNumbers() {
        CHECK.says("OUTSIDE: c 0 to 1000000, n, s 0 to 100 (LOST less 2)");
        Bounds.range(CHECK, "may c", DrawnAreas::new, 0, 1000000, LOST - 2, (d, v) -> d.may(v, 0, 0, 0, 0));
        Bounds.range(CHECK, "may n", DrawnAreas::new, 0, 100, LOST - 2, (d, v) -> d.may(0, v, 0, 1, 0));
        Bounds.range(CHECK, "may s", DrawnAreas::new, 0, 100, LOST - 2, (d, v) -> d.may(0, 0, v, 0, 1));
        Bounds.range(CHECK, "may side", DrawnAreas::new, 0, 1, LOST - 2, (d, v) -> d.may(0, 0, 0, v, 0));
        Bounds.range(CHECK, "may part", DrawnAreas::new, 0, 1, LOST - 2, (d, v) -> d.may(0, 0, 0, 0, v));
    }

    private static void mayIs(DrawnAreas d, int c, int n, int s, int side, long upper, long lower) {
        String call = "may(" + c + ", " + n + ", " + s + ", " + side + ")";
        CHECK.dueFraction(call, d.may(c, n, s, side, 0), d.may(c, n, s, side, 1), upper, lower);
    }

    private static void mayLowestTerms() {
        CHECK.says("in lowest terms, the lower above 0");
        DrawnAreas d = new DrawnAreas();
        d.rod(1);
        d.teeth(1, 10000);
        mayIs(d, 0, 0, 0, 0, 0, 1);
        mayIs(d, 0, 0, 0, 1, 1, 10000);
        mayIs(d, 9999, 0, 0, 0, 9999, 10000);
        mayIs(d, 9999, 0, 0, 1, 1, 1);
        mayIs(d, 10000, 0, 0, 0, 1, 1);
        mayIs(d, 2500, 0, 0, 0, 1, 4);
    }

    private static void mayAtLeast0() {
        CHECK.says("from (c - n s) U ROD by T, at least 0");
        DrawnAreas d = new DrawnAreas();
        d.rod(1);
        d.teeth(1, 1);
        mayIs(d, 6, 2, 3, 0, 0, 1);
        mayIs(d, 5, 2, 3, 0, 0, 1);
        mayIs(d, 7, 2, 3, 0, 1, 1);
        mayIs(d, 0, 100, 100, 0, 0, 1);
        mayIs(d, 9999, 100, 100, 0, 0, 1);
        mayIs(d, 10000, 100, 100, 0, 0, 1);
        mayIs(d, 10001, 100, 100, 0, 1, 1);
        mayIs(d, 5, 0, 100, 0, 5, 1);
        mayIs(d, 5, 100, 0, 0, 5, 1);
    }

    private static void mayBelow() {
        CHECK.says("up to below (c and 1 and n s) U ROD by T");
        DrawnAreas d = new DrawnAreas();
        d.rod(1);
        d.teeth(1, 1);
        mayIs(d, 0, 0, 0, 1, 1, 1);
        mayIs(d, 0, 0, 100, 1, 1, 1);
        mayIs(d, 0, 100, 0, 1, 1, 1);
        mayIs(d, 0, 1, 1, 1, 2, 1);
        mayIs(d, 0, 100, 100, 1, 10001, 1);
        mayIs(d, 1000000, 0, 0, 1, 1000001, 1);
        mayIs(d, 1000000, 100, 100, 1, 1010001, 1);
    }

    private static void mayGreatest() {
        CHECK.says("What an AREA may be by a COUNT c and n SLIPS of s TEETH at most each");
        DrawnAreas d = new DrawnAreas();
        d.rod(400);
        d.teeth(1000, 1);
        mayIs(d, 1000000, 100, 100, 1, 404000400000L, 1);
        mayIs(d, 1000000, 0, 0, 0, 400000000000L, 1);
        mayIs(d, 1000000, 100, 100, 0, 396000000000L, 1);
        d.teeth(999, 9998);
        d.rod(399);
        mayIs(d, 1000000, 100, 100, 1, 1010001L * 999 * 399, 9998);
    }

    // ---- promise 23

    private static void fitsNumbers() {
        CHECK.says("OUTSIDE: c 0 to 1000000, n, s 0 to 100 (LOST less 2)");
        Bounds.range(CHECK, "fits c", Bounds::triangles, 0, 1000000, -2, (d, v) -> d.fits(0, v, 0, 0));
        Bounds.range(CHECK, "fits n", Bounds::triangles, 0, 100, -2, (d, v) -> d.fits(0, 0, v, 0));
        Bounds.range(CHECK, "fits s", Bounds::triangles, 0, 100, -2, (d, v) -> d.fits(0, 0, 0, v));
    }

    private static void fitsIs(DrawnAreas d, int c, int n, int s, long want) {
        CHECK.due("fits(0, " + c + ", " + n + ", " + s + ")", d.fits(0, c, n, s), want);
    }

    /** An AREA of 60, a tooth of 12: just 5 teeth. */
    private static DrawnAreas fiveTeeth() {
        DrawnAreas d = new DrawnAreas();
        Check.draw(d, 0, 0, 0, 12, 0, 12, 5, 0, 5);
        d.teeth(2, 1);
        d.rod(6);
        return d;
    }

    private static void fitsFromOn() {
        CHECK.says("from (c - n s) U ROD by T, at least 0");
        DrawnAreas d = fiveTeeth();
        fitsIs(d, 5, 0, 0, 1);
        fitsIs(d, 6, 0, 0, 0);
        fitsIs(d, 11, 2, 3, 1);
        fitsIs(d, 12, 2, 3, 0);
        fitsIs(d, 10005, 100, 100, 1);
        fitsIs(d, 10006, 100, 100, 0);
        // An AREA of 59 and a half: just short of 5 teeth.
        Check.draw(d, 0, -20, 0, 99, 0, 99, 1);
        fitsIs(d, 5, 0, 0, 0);
        fitsIs(d, 4, 0, 0, 1);
    }

    private static void fitsBelow() {
        CHECK.says("up to below (c and 1 and n s) U ROD by T");
        DrawnAreas d = fiveTeeth();
        fitsIs(d, 4, 0, 0, 0);
        fitsIs(d, 4, 1, 1, 1);
        fitsIs(d, 3, 1, 1, 0);
        fitsIs(d, 0, 2, 2, 0);
        fitsIs(d, 0, 1, 5, 1);
        fitsIs(d, 0, 5, 1, 1);
        fitsIs(d, 0, 100, 100, 1);
        fitsIs(d, 0, 100, 0, 0);
        fitsIs(d, 0, 0, 100, 0);
        d.teeth(1, 1);
        d.rod(60);
        fitsIs(d, 0, 0, 0, 0);
        d.rod(61);
        fitsIs(d, 0, 0, 0, 1);
    }

    private static void fitsAtLeast0() {
        CHECK.says("from (c - n s) U ROD by T, at least 0");
        DrawnAreas d = fiveTeeth();
        Bounds.heap(d, 0, 3, 50, 50);
        fitsIs(d, 0, 0, 0, 1);
        fitsIs(d, 1, 0, 0, 0);
        fitsIs(d, 6, 2, 3, 1);
        fitsIs(d, 7, 2, 3, 0);
        fitsIs(d, 5, 2, 3, 1);
        fitsIs(d, 10000, 100, 100, 1);
        fitsIs(d, 10001, 100, 100, 0);
    }

    private static void fitsItsSize() {
        CHECK.says("Whether a FIGURE's AREA (its size) may be by that: 1, 0");
        DrawnAreas d = fiveTeeth();
        d.copy(0, 0, true);
        CHECK.due("twice", d.twice(0), -120);
        fitsIs(d, 4, 0, 0, 0);
        fitsIs(d, 5, 0, 0, 1);
        fitsIs(d, 6, 0, 0, 0);
    }

    private static void fitsNeedNotGo() {
        CHECK.says("UNKNOWN; OUTSIDE; STATE: not CLOSED.");
        DrawnAreas d = fiveTeeth();
        d.rod(5);
        CHECK.due("can", d.can(0), 0);
        fitsIs(d, 5, 0, 0, 0);
        fitsIs(d, 6, 0, 0, 1);
        fitsIs(d, 7, 0, 0, 0);
    }

    private static void fitsGreatest() {
        CHECK.says("What an AREA may be by a COUNT c and n SLIPS of s TEETH at most each");
        DrawnAreas d = new DrawnAreas();
        Bounds.sixTimes(d, 0, -100, -100, 100, 100);
        d.rod(400);
        d.teeth(1000, 1);
        fitsIs(d, 0, 0, 0, 1);
        fitsIs(d, 1000000, 0, 0, 0);
        fitsIs(d, 1000000, 100, 100, 0);
        // 1000000 teeth are 24000.
        d.rod(240);
        d.teeth(1, 10000);
        fitsIs(d, 1000000, 100, 100, 0);
        Check.draw(d, 0, 0, 0, 80, 0, 80, 100, -80, 100, -80, -100, 0, -100);
        CHECK.due("twice", d.twice(0), 48000);
        fitsIs(d, 1000000, 0, 0, 1);
        fitsIs(d, 999999, 0, 0, 0);
        fitsIs(d, 999999, 1, 1, 1);
    }

    private static void fitsWhatIsCounted() {
        CHECK.says("What an AREA may be by a COUNT c");
        for (int rod = 26; rod <= 400; rod += 17) {
            DrawnAreas d = Bounds.triangles();
            d.rod(rod);
            for (int u = 1; u <= 1000; u += 111) {
                d.teeth(u, 10 * u - 7);
                int told = (int) d.count(0);
                fitsIs(d, told, 0, 0, 1);
                fitsIs(d, told + 1, 0, 0, 0);
                if (told > 0) {
                    fitsIs(d, told - 1, 0, 0, 0);
                }
            }
        }
    }
}
