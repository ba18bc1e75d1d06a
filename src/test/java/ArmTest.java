/** Promises 17 to 19. */
public final class ArmTest {
    private static final long LOST = DrawnAreas.LOST;
    private static final Check CHECK = new Check("ArmTest");

    public static void main(String[] args) {
        arm();
        ring();
        reaches();
        CHECK.end();
    }

    private static void arm() {
        DrawnAreas d = new DrawnAreas();
        Check.draw(d, 0, -10, -10, 10, -10, 0, 10);
        CHECK.due("arm u 201", d.arm(201, 0, 1, 0), -2);
        CHECK.due("arm u -201", d.arm(-201, 0, 1, 0), -2);
        CHECK.due("arm v 201", d.arm(0, 201, 1, 0), -2);
        CHECK.due("arm v -201", d.arm(0, -201, 1, 0), -2);
        CHECK.due("arm a 0", d.arm(50, 50, 0, 1), -2);
        CHECK.due("arm a 401", d.arm(50, 50, 401, 1), -2);
        CHECK.due("arm b 101", d.arm(50, 50, 1, 101), -2);
        CHECK.due("arm b -101", d.arm(50, 50, 1, -101), -2);
        CHECK.due("refused arms change no lengths", d.ring(0, 0), 10000 + 22500);
        CHECK.due("refused arms change no foot", d.ring(0, 1), 1);
        CHECK.due("arm at the edges", d.arm(200, -200, 400, 100), 1);
        CHECK.due("its lengths", d.ring(0, 0), 160000 + 22500 + 2 * 100 * 150);
        CHECK.due("its foot", d.ring(0, 1), 0);
        CHECK.due("arm at the other edges", d.arm(-200, 200, 1, -100), 1);
        CHECK.due("its lengths too", d.ring(0, 0), 1 + 22500 - 2 * 100 * 150);
    }

    private static void ring() {
        DrawnAreas d = new DrawnAreas();
        CHECK.due("ring(6, 2): UNKNOWN first", d.ring(6, 2), LOST - 1);
        CHECK.due("ring(-1, 0)", d.ring(-1, 0), LOST - 1);
        CHECK.due("ring what 2: OUTSIDE before STATE", d.ring(0, 2), LOST - 2);
        CHECK.due("ring what -1", d.ring(0, -1), LOST - 2);
        Check.draw(d, 0, 0, 0, 10, 0);
        CHECK.due("ring, not closed, the foot on a side: STATE first", d.ring(0, 0), LOST - 3);
        d.point(0, 0, 10);
        CHECK.due("ring, the foot on a point", d.ring(0, 0), LOST - 5);
        d.arm(5, 5, 20, 3);
        CHECK.due("ring, the foot on a side", d.ring(0, 1), LOST - 5);
        d.arm(2, 3, 20, 3);
        d.rod(30);
        CHECK.due("ring inside", d.ring(0, 0), 400 + 900 + 180);
        CHECK.due("ring inside: k", d.ring(0, 1), 1);
        d.copy(0, 1, true);
        CHECK.due("ring inside, turned", d.ring(1, 0), 1480);
        CHECK.due("ring inside, turned: k", d.ring(1, 1), -1);
        d.arm(7, 7, 20, -3);
        CHECK.due("ring outside", d.ring(0, 0), 400 + 900 - 180);
        CHECK.due("ring outside: k", d.ring(0, 1), 0);
    }

    private static void reaches() {
        DrawnAreas d = new DrawnAreas();
        CHECK.due("reaches(6)", d.reaches(6), -1);
        CHECK.due("reaches(-1)", d.reaches(-1), -1);
        CHECK.due("reaches, not closed", d.reaches(0), -3);
        Check.draw(d, 0, 30, 40, 60, 80, 80, 60);
        d.rod(60);
        d.arm(0, 0, 41, 0);
        CHECK.due("from 50 to 100, rod and arm 19 to 101", d.reaches(0), 1);
        d.arm(0, 0, 40, 0);
        CHECK.due("a point as far as both: not reached", d.reaches(0), 0);
        d.arm(0, 0, 109, 0);
        CHECK.due("folded to 49", d.reaches(0), 1);
        d.arm(0, 0, 110, 0);
        CHECK.due("folded to 50: a point is there", d.reaches(0), 0);
        d.arm(0, 0, 110, 0);
        d.rod(61);
        CHECK.due("rod longer", d.reaches(0), 1);
        d.rod(160);
        d.arm(0, 0, 110, 0);
        CHECK.due("rod longer than the arm by 50", d.reaches(0), 0);
        d.rod(159);
        CHECK.due("rod longer than the arm by 49", d.reaches(0), 1);
        // A SIDE nearest in its midst: 30 from the foot, its ends 50.
        Check.draw(d, 0, 30, -40, 30, 40, 60, 0);
        d.rod(50);
        d.arm(0, 0, 80, 0);
        CHECK.due("a side's midst is 30 far, folded to 30", d.reaches(0), 0);
        d.arm(0, 0, 79, 0);
        CHECK.due("a side's midst is 30 far, folded to 29", d.reaches(0), 1);
        // Nearest at 24, 32 (40 far) on a slanting SIDE, both with a foot that is not at 0, 0.
        Check.draw(d, 0, 7 + 48, 9 + 14, 7, 9 + 50, 7 + 48, 9 + 50);
        d.arm(7, 9, 90, 0);
        CHECK.due("a slanting side 40 far, folded to 40", d.reaches(0), 0);
        d.arm(7, 9, 89, 0);
        CHECK.due("a slanting side 40 far, folded to 39", d.reaches(0), 1);
        // POINT 0 is farthest: 50 from the foot, the others nearer.
        Check.draw(d, 0, 7 + 30, 9 - 40, 7 + 20, 9, 7 + 25, 9);
        d.rod(30);
        d.arm(7, 9, 21, 0);
        CHECK.due("the first point 50 far, both 51", d.reaches(0), 1);
        d.arm(7, 9, 20, 0);
        CHECK.due("the first point 50 far, both 50", d.reaches(0), 0);
        Check.draw(d, 0, 7 + 48, 9 + 14, 7, 9 + 50, 7 + 48, 9 + 50);
        d.rod(80);
        d.arm(7, 9, 80, 0);
        CHECK.due("rod as long as the arm", d.reaches(0), 1);
        d.arm(55, 40, 80, 0);
        CHECK.due("rod as long as the arm, the foot on a side", d.reaches(0), 0);
    }
}
