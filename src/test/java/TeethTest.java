/** Promises 20 to 23. */
public final class TeethTest {
    private static final long LOST = DrawnAreas.LOST;
    private static final Check CHECK = new Check("TeethTest");

    public static void main(String[] args) {
        teeth();
        count();
        may();
        fits();
        CHECK.end();
    }

    private static void teeth() {
        DrawnAreas d = new DrawnAreas();
        CHECK.due("teeth u 0", d.teeth(0, 7), -2);
        CHECK.due("teeth u 1001", d.teeth(1001, 7), -2);
        CHECK.due("teeth t 0", d.teeth(7, 0), -2);
        CHECK.due("teeth t 10001", d.teeth(7, 10001), -2);
        CHECK.dueFraction("refused teeth", d.may(1, 0, 0, 0, 0), d.may(1, 0, 0, 0, 1), 9, 1);
        CHECK.due("teeth at the edges", d.teeth(1000, 1), 1);
        CHECK.dueFraction("U 1000, T 1", d.may(1, 0, 0, 0, 0), d.may(1, 0, 0, 0, 1), 150000, 1);
        CHECK.due("teeth at the other edges", d.teeth(1, 10000), 1);
        CHECK.dueFraction("U 1, T 10000", d.may(1, 0, 0, 0, 0), d.may(1, 0, 0, 0, 1), 3, 200);
    }

    private static void count() {
        DrawnAreas d = new DrawnAreas();
        CHECK.due("count(6)", d.count(6), LOST - 1);
        CHECK.due("count(-1)", d.count(-1), LOST - 1);
        Check.draw(d, 0, 0, 0, 7, 0);
        CHECK.due("count, not closed", d.count(0), LOST - 3);
        d.point(0, 0, 5);
        d.rod(5);
        CHECK.due("count, can't go", d.count(0), LOST - 3);
        d.rod(7);
        d.teeth(5, 10);
        // THE TURN is 35 by 14, times 10 by 5: 5.
        CHECK.due("count, whole", d.count(0), 5);
        d.teeth(6, 10);
        CHECK.due("count, cut from 4.17", d.count(0), 4);
        d.copy(0, 0, true);
        CHECK.due("count turned: its size, cut", d.count(0), 4);
        Check.draw(d, 1, -100, -100, 100, -100, 100, 100, -100, 100);
        d.rod(101);
        d.teeth(1, 10000);
        CHECK.due("the greatest square", d.count(1), 3960396);
    }

    private static void may() {
        DrawnAreas d = new DrawnAreas();
        CHECK.due("may c -1", d.may(-1, 0, 0, 0, 0), LOST - 2);
        CHECK.due("may c 1000001", d.may(1000001, 0, 0, 0, 0), LOST - 2);
        CHECK.due("may n -1", d.may(0, -1, 0, 0, 0), LOST - 2);
        CHECK.due("may n 101", d.may(0, 101, 0, 0, 0), LOST - 2);
        CHECK.due("may s -1", d.may(0, 0, -1, 0, 0), LOST - 2);
        CHECK.due("may s 101", d.may(0, 0, 101, 0, 0), LOST - 2);
        CHECK.due("may side 2", d.may(0, 0, 0, 2, 0), LOST - 2);
        CHECK.due("may side -1", d.may(0, 0, 0, -1, 0), LOST - 2);
        CHECK.due("may part 2", d.may(0, 0, 0, 0, 2), LOST - 2);
        CHECK.due("may part -1", d.may(0, 0, 0, 0, -1), LOST - 2);
        d.teeth(9, 14);
        d.rod(10);
        mayIs(d, 10, 2, 3, 0, 180, 7);
        mayIs(d, 10, 2, 3, 1, 765, 7);
        mayIs(d, 6, 2, 3, 0, 0, 1);
        mayIs(d, 5, 2, 3, 0, 0, 1);
        mayIs(d, 7, 2, 3, 0, 45, 7);
        mayIs(d, 0, 0, 100, 1, 45, 7);
        d.teeth(1000, 1);
        d.rod(400);
        mayIs(d, 1000000, 100, 100, 1, 1010001L * 400000, 1);
        mayIs(d, 1000000, 100, 100, 0, 990000L * 400000, 1);
    }

    private static void mayIs(DrawnAreas d, int c, int n, int s, int side, long upper, long lower) {
        String call = "may(" + c + ", " + n + ", " + s + ", " + side + ")";
        CHECK.dueFraction(call, d.may(c, n, s, side, 0), d.may(c, n, s, side, 1), upper, lower);
    }

    private static void fits() {
        DrawnAreas d = new DrawnAreas();
        CHECK.due("fits(6, -1, 0, 0): UNKNOWN first", d.fits(6, -1, 0, 0), -1);
        CHECK.due("fits(-1, 0, 0, 0)", d.fits(-1, 0, 0, 0), -1);
        CHECK.due("fits c -1: OUTSIDE before STATE", d.fits(0, -1, 0, 0), -2);
        CHECK.due("fits c 1000001", d.fits(0, 1000001, 0, 0), -2);
        CHECK.due("fits n 101", d.fits(0, 0, 101, 0), -2);
        CHECK.due("fits n -1", d.fits(0, 0, -1, 0), -2);
        CHECK.due("fits s 101", d.fits(0, 0, 0, 101), -2);
        CHECK.due("fits s -1", d.fits(0, 0, 0, -1), -2);
        CHECK.due("fits, not closed", d.fits(0, 0, 0, 0), -3);
        // AREA 15/2; a tooth is U ROD by T = 5/2: exactly 3 teeth.
        Check.draw(d, 0, 0, 0, 5, 0, 0, 3);
        d.teeth(5, 2);
        d.rod(1);
        CHECK.due("fits from its lower end on", d.fits(0, 3, 0, 0), 1);
        CHECK.due("fits below its upper end alone", d.fits(0, 2, 0, 0), 0);
        CHECK.due("fits too much", d.fits(0, 4, 0, 0), 0);
        CHECK.due("fits with a slip down", d.fits(0, 4, 1, 1), 1);
        CHECK.due("fits with a slip up", d.fits(0, 2, 1, 1), 1);
        CHECK.due("fits, slips not enough up", d.fits(0, 0, 1, 2), 0);
        CHECK.due("fits, slips enough up", d.fits(0, 0, 1, 3), 1);
        CHECK.due("fits, slips not enough down", d.fits(0, 8, 2, 2), 0);
        CHECK.due("fits, slips enough down", d.fits(0, 7, 2, 2), 1);
        d.copy(0, 0, true);
        CHECK.due("fits turned: its size", d.fits(0, 3, 0, 0), 1);
        Check.draw(d, 0, 0, 0, 5, 0, 9, 0);
        CHECK.due("fits: no area, nothing told", d.fits(0, 0, 0, 0), 1);
        CHECK.due("fits: no area, least 0", d.fits(0, 5, 3, 3), 1);
        CHECK.due("fits: no area, much told", d.fits(0, 5, 2, 2), 0);
    }
}
