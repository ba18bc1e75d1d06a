/** The boundary cases of promises 17 to 19, and of "3" under Terms: a method for each sentence that names one. */
public final class ArmBoundsTest {
    private static final long LOST = DrawnAreas.LOST;
    private static final Check CHECK = new Check("ArmBoundsTest");

    public static void main(String[] args) {
        figures0To5();
        closedFrom3On();
        armNumbers();
        armCorners();
        armRefusedStays();
        ringWhat();
        ringWithPi();
        ringWithPiWhateverK();
        ringK();
        ringFootOnEverySide();
        ringFootBesideASide();
        ringNeedNotBeReached();
        reachesFartherThanFolded();
        reachesLessFarThanBoth();
        reachesWithinASide();
        reachesEveryPoint();
        reachesArmAsLongAsTheRod();
        reachesTheirSize();
        reachesFarthestFoot();
        reachesThePointsThatAre();
        CHECK.end();
    }

    private static void figures0To5() {
        CHECK.says("UNKNOWN -1 (there is no such FIGURE, POINT)");
        Bounds.range(CHECK, "ring figure", Bounds::triangles, 0, 5, LOST - 1, (d, v) -> d.ring(v, 0));
        Bounds.range(CHECK, "ring figure, k", Bounds::triangles, 0, 5, LOST - 1, (d, v) -> d.ring(v, 1));
        Bounds.range(CHECK, "reaches figure", Bounds::triangles, 0, 5, -1, (d, v) -> d.reaches(v));
    }

    private static void closedFrom3On() {
        CHECK.says("A FIGURE is CLOSED, if it has 3 POINTS or more");
        DrawnAreas d = new DrawnAreas();
        for (int n = 0; n <= 3; n++) {
            CHECK.due("ring of " + n, d.ring(0, 0), n < 3 ? LOST - 3 : 32500);
            CHECK.due("ring of " + n + ", k", d.ring(0, 1), n < 3 ? LOST - 3 : 0);
            CHECK.due("reaches of " + n, d.reaches(0), n < 3 ? -3 : 1);
            d.point(0, 70, 70);
        }
    }

    // ---- promise 17

    private static void armNumbers() {
        CHECK.says("THE ARM: a foot at u, v (-200 to 200), an arm of length A (1 to 400)");
        Bounds.range(CHECK, "arm u", DrawnAreas::new, -200, 200, -2, (d, v) -> d.arm(v, 0, 1, 0));
        Bounds.range(CHECK, "arm v", DrawnAreas::new, -200, 200, -2, (d, v) -> d.arm(0, v, 1, 0));
        Bounds.range(CHECK, "arm a", DrawnAreas::new, 1, 400, -2, (d, v) -> d.arm(0, 0, v, 0));
        CHECK.says("the wheel stands B (-100 to 100) beyond the joint");
        Bounds.range(CHECK, "arm b", DrawnAreas::new, -100, 100, -2, (d, v) -> d.arm(0, 0, 1, v));
    }

    private static void armCorners() {
        CHECK.says("THE ARM: 1. OUTSIDE.");
        DrawnAreas d = Bounds.triangles();
        int[] u = {-200, 200};
        int[] a = {1, 400};
        int[] b = {-100, 0, 100};
        for (int k = 0; k < 24; k++) {
            int length = a[k / 4 % 2];
            int beyond = b[k / 8];
            CHECK.due("arm, corner " + k, d.arm(u[k % 2], u[k / 2 % 2], length, beyond), 1);
            CHECK.due("its lengths, corner " + k, d.ring(0, 0), length * length + 22500 + 300 * beyond);
            CHECK.due("its foot, corner " + k, d.ring(0, 1), 0);
        }
    }

    private static void armRefusedStays() {
        CHECK.says("THE ARM: 1. OUTSIDE.");
        int[][] wrong = {
            {201, 1, 2, 3}, {-201, 1, 2, 3}, {1, 201, 2, 3}, {1, -201, 2, 3},
            {1, 2, 0, 3}, {1, 2, 401, 3}, {1, 2, 3, 101}, {1, 2, 3, -101}, {201, -201, 0, 101}
        };
        for (int[] w : wrong) {
            DrawnAreas d = new DrawnAreas();
            Bounds.heap(d, 0, 3, 40, 30);
            Bounds.heap(d, 1, 3, 9, 9);
            d.arm(40, 30, 50, 7);
            CHECK.due("arm refused", d.arm(w[0], w[1], w[2], w[3]), -2);
            CHECK.due("the foot stays", d.ring(0, 1), LOST - 5);
            CHECK.due("A and B stay", d.ring(1, 0), 2500 + 22500 + 2 * 7 * 150);
        }
    }

    // ---- promise 18

    private static void ringWhat() {
        CHECK.says("UNKNOWN, OUTSIDE: what (LOST less 1, 2)");
        Bounds.range(CHECK, "ring what", Bounds::triangles, 0, 1, LOST - 2, (d, v) -> d.ring(5, v));
    }

    private static void withPiIs(int a, int rod, int b, long want) {
        DrawnAreas d = new DrawnAreas();
        Bounds.heap(d, 0, 3, 50, 50);
        d.arm(0, 0, a, b);
        d.rod(rod);
        CHECK.due("with pi, A " + a + ", ROD " + rod + ", B " + b, d.ring(0, 0), want);
    }

    private static void ringWithPi() {
        CHECK.says("k times pi times (A A and ROD ROD and 2 B ROD)");
        withPiIs(400, 400, 100, 160000 + 160000 + 80000);
        withPiIs(400, 400, -100, 160000 + 160000 - 80000);
        withPiIs(1, 1, 0, 2);
        withPiIs(1, 1, 1, 4);
        withPiIs(1, 1, -1, 0);
        withPiIs(1, 1, -2, -2);
        withPiIs(1, 100, -100, 1 + 10000 - 20000);
        withPiIs(1, 400, -100, 1 + 160000 - 80000);
        withPiIs(400, 1, 100, 160000 + 1 + 200);
    }

    private static void ringWithPiWhateverK() {
        CHECK.says("What stands with pi in the wheel's turn times ROD, without its sign k (what = 0), k (1)");
        DrawnAreas d = new DrawnAreas();
        d.arm(0, 0, 7, 5);
        d.rod(3);
        Bounds.sixTimes(d, 0, -9, -9, 9, 9);
        CHECK.due("k 6: with pi", d.ring(0, 0), 49 + 9 + 30);
        CHECK.due("k 6", d.ring(0, 1), 6);
        d.copy(0, 1, true);
        CHECK.due("k -6: with pi", d.ring(1, 0), 49 + 9 + 30);
        CHECK.due("k -6", d.ring(1, 1), -6);
        Bounds.sixTimes(d, 2, 1, 1, 9, 9);
        CHECK.due("k 0: with pi", d.ring(2, 0), 49 + 9 + 30);
        CHECK.due("k 0", d.ring(2, 1), 0);
    }

    private static void ringK() {
        CHECK.says("Round a CLOSED FIGURE that winds k times round the foot");
        DrawnAreas d = new DrawnAreas();
        for (int i = 0; i < 8; i++) {
            d.point(0, 30, -10);
            d.point(0, 0, 30);
            d.point(0, -30, -10);
        }
        CHECK.due("k 8", d.ring(0, 1), 8);
        d.arm(200, 200, 1, 0);
        CHECK.due("k, the foot in a corner", d.ring(0, 1), 0);
        d.arm(-200, -10, 1, 0);
        CHECK.due("k, the foot far left at a side's height", d.ring(0, 1), 0);
        d.arm(0, -9, 1, 0);
        CHECK.due("k, the foot just inside", d.ring(0, 1), 8);
        d.arm(0, -11, 1, 0);
        CHECK.due("k, the foot just outside", d.ring(0, 1), 0);
    }

    private static void ringFootOnEverySide() {
        CHECK.says("NO: the foot is on a SIDE (LOST less 5)");
        DrawnAreas d = new DrawnAreas();
        int[] on = {0, 0, 12, 6, 6, 18, -9, 9, 2, 1, 11, 8, 1, 15, -1, 1};
        for (int first = 0; first < 4; first++) {
            Bounds.drawFrom(d, 0, first, 0, 0, 12, 6, 6, 18, -9, 9);
            for (int k = 0; k < on.length; k += 2) {
                d.arm(on[k], on[k + 1], 1, 0);
                CHECK.due("ring, foot at " + on[k] + ", " + on[k + 1], d.ring(0, 0), LOST - 5);
                CHECK.due("ring, foot at " + on[k] + ", " + on[k + 1] + ", k", d.ring(0, 1), LOST - 5);
            }
        }
    }

    private static void ringFootBesideASide() {
        CHECK.says("NO: the foot is on a SIDE (LOST less 5)");
        DrawnAreas d = new DrawnAreas();
        int[] off = {14, 7, -2, -1, 5, 20, 13, 4, 11, 21, -14, 6, -10, 10, 1, -1};
        for (int first = 0; first < 4; first++) {
            Bounds.drawFrom(d, 0, first, 0, 0, 12, 6, 6, 18, -9, 9);
            for (int k = 0; k < off.length; k += 2) {
                d.arm(off[k], off[k + 1], 1, 0);
                CHECK.due("ring, foot in line, beyond, at " + off[k] + ", " + off[k + 1], d.ring(0, 1), 0);
            }
            d.arm(1, 1, 1, 0);
            CHECK.due("ring, foot just inside", d.ring(0, 1), 1);
        }
    }

    private static void ringNeedNotBeReached() {
        CHECK.says("STATE: not CLOSED (LOST less 3)");
        DrawnAreas d = new DrawnAreas();
        Bounds.heap(d, 0, 3, 90, 90);
        d.rod(1);
        d.arm(0, 0, 1, 0);
        CHECK.due("reaches, too far", d.reaches(0), 0);
        CHECK.due("can, too far from the rail", d.can(0), 0);
        CHECK.due("ring all the same", d.ring(0, 0), 2);
    }

    // ---- promise 19

    private static void reachesIs(DrawnAreas d, int a, int rod, long want) {
        d.rod(rod);
        CHECK.due("reaches, A " + a + ", ROD " + rod, d.reaches(0), want);
    }

    private static void reachesFartherThanFolded() {
        CHECK.says("all its SIDES are farther from the foot than A less ROD (its size)");
        DrawnAreas d = new DrawnAreas();
        Bounds.heap(d, 0, 3, 30, 40);
        d.arm(0, 0, 100, 0);
        reachesIs(d, 100, 49, 0);
        reachesIs(d, 100, 50, 0);
        reachesIs(d, 100, 51, 1);
        reachesIs(d, 100, 149, 1);
        reachesIs(d, 100, 150, 0);
        reachesIs(d, 100, 151, 0);
    }

    private static void reachesLessFarThanBoth() {
        CHECK.says("and less far than A and ROD");
        DrawnAreas d = new DrawnAreas();
        Bounds.heap(d, 0, 3, 30, 40);
        d.arm(0, 0, 20, 0);
        reachesIs(d, 20, 29, 0);
        reachesIs(d, 20, 30, 0);
        reachesIs(d, 20, 31, 1);
        Bounds.heap(d, 0, 3, 31, 40);
        reachesIs(d, 20, 30, 0);
        reachesIs(d, 20, 31, 1);
        Bounds.heap(d, 0, 3, 29, 40);
        reachesIs(d, 20, 29, 0);
        reachesIs(d, 20, 30, 1);
    }

    private static void reachesWithinASide() {
        CHECK.says("The POINTER REACHES all of a FIGURE, if all its SIDES are farther from the foot");
        DrawnAreas d = new DrawnAreas();
        for (int first = 0; first < 4; first++) {
            // The upright SIDE is 30 far in its midst, its ends 50; all others are farther.
            Bounds.drawFrom(d, 0, first, 30, 40, 30, -40, 60, -40, 60, 40);
            d.arm(0, 0, 100, 0);
            reachesIs(d, 100, 70, 0);
            reachesIs(d, 100, 71, 1);
            d.arm(0, 0, 71, 0);
            reachesIs(d, 71, 100, 1);
            d.arm(0, 0, 70, 0);
            reachesIs(d, 70, 100, 0);
            // The slanting SIDE is 40 far in its midst.
            Bounds.drawFrom(d, 0, first, 48, 14, 0, 50, 10, 60, 60, 20);
            d.arm(0, 0, 100, 0);
            reachesIs(d, 100, 60, 0);
            reachesIs(d, 100, 61, 1);
            // The same SIDE from a foot beyond its end: the end is nearest, 50 far.
            d.arm(48, -36, 100, 0);
            reachesIs(d, 100, 50, 0);
            reachesIs(d, 100, 51, 1);
        }
    }

    private static void reachesEveryPoint() {
        CHECK.says("The POINTER REACHES all of a FIGURE");
        DrawnAreas d = new DrawnAreas();
        Bounds.heap(d, 0, 24, 30, 40);
        d.arm(0, 0, 30, 0);
        d.rod(25);
        CHECK.due("reaches, all 50 far", d.reaches(0), 1);
        for (int i = 0; i < 24; i++) {
            d.move(0, i, 33, 44);
            CHECK.due("reaches, point " + i + " 55 far", d.reaches(0), 0);
            d.move(0, i, 3, 4);
            CHECK.due("reaches, point " + i + " 5 far", d.reaches(0), 0);
            d.move(0, i, 30, 40);
        }
        CHECK.due("reaches, all 50 far again", d.reaches(0), 1);
    }

    private static void reachesArmAsLongAsTheRod() {
        CHECK.says("farther from the foot than A less ROD (its size)");
        DrawnAreas d = new DrawnAreas();
        Check.draw(d, 0, 0, 0, 10, 0, 0, 10);
        d.rod(90);
        d.arm(1, 1, 90, 0);
        CHECK.due("reaches, the foot inside", d.reaches(0), 1);
        d.arm(0, 0, 90, 0);
        CHECK.due("reaches, the foot on a point", d.reaches(0), 0);
        d.arm(5, 5, 90, 0);
        CHECK.due("reaches, the foot on a side", d.reaches(0), 0);
        d.arm(0, 7, 90, 0);
        CHECK.due("reaches, the foot on the last side", d.reaches(0), 0);
        d.arm(6, 5, 90, 0);
        CHECK.due("reaches, the foot just outside", d.reaches(0), 1);
        d.arm(0, 11, 90, 0);
        CHECK.due("reaches, the foot in line, beyond", d.reaches(0), 1);
    }

    private static void reachesTheirSize() {
        CHECK.says("farther from the foot than A less ROD (its size)");
        int[][] at = {{1, 400}, {400, 1}, {201, 200}, {200, 201}, {400, 400}};
        long[] want = {0, 0, 1, 1, 1};
        for (int k = 0; k < at.length; k++) {
            DrawnAreas d = new DrawnAreas();
            Bounds.heap(d, 0, 3, 1, 1);
            d.arm(0, 0, at[k][0], 0);
            reachesIs(d, at[k][0], at[k][1], want[k]);
        }
    }

    private static void reachesFarthestFoot() {
        CHECK.says("THE ARM: a foot at u, v (-200 to 200)");
        DrawnAreas d = new DrawnAreas();
        // 225, 300 from the foot: 375 far.
        Bounds.heap(d, 0, 3, 25, 100);
        int[] arms = {373, 374, 375, 376, 377};
        long[] want = {0, 0, 1, 0, 0};
        for (int k = 0; k < arms.length; k++) {
            d.arm(-200, -200, arms[k], 0);
            reachesIs(d, arms[k], 1, want[k]);
        }
        Check.draw(d, 0, -100, -100, 100, -100, 100, 100, -100, 100);
        d.arm(-200, -200, 400, 0);
        reachesIs(d, 400, 400, 1);
        // The nearest corner is 141.4 far, the farthest 424.3.
        reachesIs(d, 400, 258, 0);
        reachesIs(d, 400, 259, 1);
        reachesIs(d, 400, 24, 0);
        d.arm(-200, -200, 283, 0);
        reachesIs(d, 283, 142, 1);
        d.arm(-200, -200, 282, 0);
        reachesIs(d, 282, 142, 0);
    }

    private static void reachesThePointsThatAre() {
        CHECK.says("The POINTER REACHES all of a FIGURE");
        DrawnAreas d = new DrawnAreas();
        Bounds.heap(d, 0, 24, -100, -100);
        Bounds.heap(d, 0, 3, 95, 80);
        d.rod(10);
        d.arm(95, 95, 6, 0);
        CHECK.due("reaches, 15 far; 0, 0 and the cleared points are no part of it", d.reaches(0), 1);
        CHECK.due("one more of it", d.point(0, -100, -100), 3);
        CHECK.due("reaches, too far", d.reaches(0), 0);
    }
}
