import java.util.ArrayList;
import java.util.List;

/**
 * Every figure of 3 and of 4 POINTS on small paper, against the Oracle: so each way that SIDES can touch,
 * cross, fold back or lie on each other, and each that a place can lie to them, comes up.
 */
public final class SmallFiguresTest {
    private static final Check CHECK = new Check("SmallFiguresTest");
    private static final int CALLS_OF_AN_OBJECT = 430;

    private DrawnAreas d = new DrawnAreas();
    private Oracle o = new Oracle();
    private int calls = 0;

    public static void main(String[] args) {
        SmallFiguresTest test = new SmallFiguresTest();
        test.every(3, 0, 3, test::allOf);
        test.every(4, 0, 2, test::allOf);
        test.every(3, -1, 2, test::lengths);
        CHECK.end();
    }

    /** What is looked at in a figure, which is FIGURE 0 of both. */
    private interface Look {
        void at(String which);
    }

    private void every(int points, int least, int most, Look look) {
        int wide = most - least + 1;
        int places = wide * wide;
        int all = 1;
        for (int i = 0; i < points; i++) {
            all *= places;
        }
        for (int k = 0; k < all; k++) {
            fresh();
            List<Integer> xy = new ArrayList<>();
            int rest = k;
            for (int i = 0; i < points; i++) {
                int x = least + rest % places % wide, y = least + rest % places / wide;
                rest /= places;
                xy.add(x);
                xy.add(y);
                d.point(0, x, y);
                o.point(0, x, y);
            }
            calls += points + 1;
            look.at(xy.toString());
        }
    }

    /** FIGURE 0 without POINTS, on an object that has calls left. */
    private void fresh() {
        if (calls > CALLS_OF_AN_OBJECT) {
            d = new DrawnAreas();
            o = new Oracle();
            calls = 0;
        }
        d.clear(0);
        o.clear(0);
    }

    private void allOf(String which) {
        CHECK.due("simple of " + which, d.simple(0), o.simple(0));
        CHECK.due("twice of " + which, d.twice(0), o.twice(0));
        for (int k = 0; k < 9; k++) {
            CHECK.due("winds of " + which + ", " + k, d.winds(0, k % 3, k / 3), o.winds(0, k % 3, k / 3));
        }
        for (int h = 0; h <= 2; h++) {
            CHECK.due("part of " + which + " at " + h, d.part(0, 1, h), o.part(0, 1, h));
            CHECK.due("its first", d.at(1, 0, 0), o.at(1, 0, 0));
        }
        calls += 17;
    }

    private void lengths(String which) {
        for (int rod = 1; rod <= 3; rod++) {
            d.rod(rod);
            o.rod(rod);
            CHECK.due("can of " + which, d.can(0), o.can(0));
            for (int a = -4; a <= 1; a++) {
                CHECK.due("rail of " + which + " from " + a, d.rail(0, a, 9), o.rail(0, a, 9));
                CHECK.due("rail of " + which + " to " + a, d.rail(0, -9, a), o.rail(0, -9, a));
            }
            for (int arm = 1; arm <= 4; arm++) {
                d.arm(-1, 2, arm, 0);
                o.arm(-1, 2, arm, 0);
                CHECK.due("reaches of " + which + ", A " + arm, d.reaches(0), o.reaches(0));
            }
            CHECK.due("ring of " + which, d.ring(0, 1), o.ring(0, 1));
        }
        calls += 3 * 23;
    }
}
