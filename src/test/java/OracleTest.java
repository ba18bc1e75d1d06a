import java.util.Random;

/** Many runs of calls, good and bad, on the class and on the Oracle: they must answer the same. */
public final class OracleTest {
    private static final int RUNS = 2500;
    private static final int CALLS = 512;
    // Drawing a figure, or laying one along a SIDE, takes this many calls at most.
    private static final int MOST_AT_ONCE = 16;
    private static final int[] WILD = {
        Integer.MIN_VALUE, Integer.MIN_VALUE + 1, -1000001, -1001, -301, -201, -101, -2, -1, 0, 1, 2, 3, 24, 25,
        101, 201, 301, 401, 1001, 10001, 1000001, Integer.MAX_VALUE - 1, Integer.MAX_VALUE
    };
    private static int wrong = 0;

    private final Random random;
    private final DrawnAreas d = new DrawnAreas();
    private final Oracle o = new Oracle();
    private final int reach;
    private final int wildEvery;
    private final StringBuilder told = new StringBuilder();
    private int used = 0;

    private OracleTest(int seed) {
        random = new Random(seed);
        // Small figures meet themselves and one another more often.
        reach = new int[] {2, 4, 10, 30, 100}[seed % 5];
        wildEvery = seed % 7 == 0 ? 4 : 60;
    }

    public static void main(String[] args) {
        for (int seed = 0; seed < RUNS && wrong < 5; seed++) {
            new OracleTest(seed).run(seed);
        }
        System.out.println("OracleTest: " + RUNS + " runs of up to " + CALLS + " calls, " + wrong + " not as due");
        if (wrong != 0) {
            System.exit(1);
        }
    }

    private void run(int seed) {
        for (int i = 0; i < 3 + random.nextInt(22); i++) {
            pointToo();
        }
        while (used < CALLS - MOST_AT_ONCE) {
            used++;
            int kind = random.nextInt(40);
            long[] got = kind < 20 ? figuresCall(kind) : railCall(kind - 20);
            if (got[0] != got[1]) {
                wrong++;
                System.out.println("run " + seed + ", call " + used + ": " + told + " answered " + got[0] + ", due is " + got[1]);
                return;
            }
        }
    }

    private void pointToo() {
        int f = random.nextInt(3), x = in(-reach, reach), y = in(-reach, reach);
        d.point(f, x, y);
        o.point(f, x, y);
        used++;
    }

    private int in(int least, int most) {
        int v = random.nextInt(wildEvery) == 0 ? WILD[random.nextInt(WILD.length)] : least + random.nextInt(most - least + 1);
        told.append(' ').append(v);
        return v;
    }

    private int figure() {
        return in(0, random.nextInt(4) == 0 ? 5 : 2);
    }

    private int bit() {
        return in(0, 1);
    }

    private void call(String name) {
        told.setLength(0);
        told.append(name);
    }

    private static long[] pair(long got, long due) {
        return new long[] {got, due};
    }

    private long[] figuresCall(int kind) {
        switch (kind) {
            case 0: case 1: case 2: case 3: {
                call("point");
                int f = figure(), x = in(-reach, reach), y = in(-reach, reach);
                return pair(d.point(f, x, y), o.point(f, x, y));
            }
            case 4: {
                call("move");
                int f = figure(), i = in(0, 12), x = in(-reach, reach), y = in(-reach, reach);
                return pair(d.move(f, i, x, y), o.move(f, i, x, y));
            }
            case 5: {
                call("clear");
                int f = random.nextInt(3) == 0 ? figure() : in(3, 5);
                return pair(d.clear(f), o.clear(f));
            }
            case 6: case 7: {
                call("at");
                int f = figure(), i = in(-1, 23), what = bit();
                return pair(d.at(f, i, what), o.at(f, i, what));
            }
            case 8: {
                call("copy");
                int a = figure(), b = figure();
                boolean turned = random.nextBoolean();
                return pair(d.copy(a, b, turned), o.copy(a, b, turned));
            }
            case 9: {
                call("twice");
                int f = figure();
                return pair(d.twice(f), o.twice(f));
            }
            case 10: case 11: {
                call("simple");
                int f = figure();
                return pair(d.simple(f), o.simple(f));
            }
            case 12: case 13: {
                call("winds");
                int f = figure(), x = in(-reach, reach), y = in(-reach, reach);
                return pair(d.winds(f, x, y), o.winds(f, x, y));
            }
            case 14: case 15: case 16:
                return joinCall();
            case 17: case 18: {
                call("part");
                int a = figure(), b = in(3, 5), h = in(-reach, reach);
                return pair(d.part(a, b, h), o.part(a, b, h));
            }
            default:
                return cutBack();
        }
    }

    /** Figures fill up otherwise, and then little but FULL is seen. */
    private long[] cutBack() {
        call("clear and draw");
        int f = random.nextInt(6);
        long got = d.clear(f), due = o.clear(f);
        int points = random.nextInt(9);
        used += points;
        for (int i = 0; i < points; i++) {
            int x = in(-reach, reach), y = in(-reach, reach);
            got = got * 31 + d.point(f, x, y);
            due = due * 31 + o.point(f, x, y);
        }
        return pair(got, due);
    }

    /** A second figure is laid along a SIDE of the first, most times: by chance SIDES seldom fit. */
    private long[] joinCall() {
        int a = random.nextInt(3), n = d.at(a, -1, 0);
        used++;
        if (n >= 3 && random.nextInt(4) != 0) {
            int side = random.nextInt(n), shift = random.nextInt(4);
            int b = 3 + random.nextInt(3), more = 1 + random.nextInt(3);
            int size = 2 + more;
            used += 5 + size;
            int[][] made = new int[size][];
            for (int k = 0; k < size; k++) {
                int from = k == 0 ? (side + 1) % n : side;
                made[(k + shift) % size] = k < 2
                    ? new int[] {d.at(a, from, 0), d.at(a, from, 1)}
                    : new int[] {random.nextInt(5), random.nextInt(5)};
            }
            d.clear(b);
            o.clear(b);
            for (int[] p : made) {
                d.point(b, p[0], p[1]);
                o.point(b, p[0], p[1]);
            }
            call("join laid");
            return pair(d.join(a, side, b, shift % size), o.join(a, side, b, shift % size));
        }
        call("join");
        int f = figure(), side = in(0, 5), g = figure(), side2 = in(0, 5);
        return pair(d.join(f, side, g, side2), o.join(f, side, g, side2));
    }

    private long[] railCall(int kind) {
        switch (kind) {
            case 0: case 1: {
                call("rod");
                int v = random.nextBoolean() ? in(1, 400) : in(1, 2 * reach);
                return pair(d.rod(v), o.rod(v));
            }
            case 2: case 3: {
                call("told");
                int f = figure(), n = in(0, 8), part = bit();
                return pair(d.told(f, n, part), o.told(f, n, part));
            }
            case 4: {
                call("can");
                int f = figure();
                return pair(d.can(f), o.can(f));
            }
            case 5: case 6: case 7:
                return railToo();
            case 8: {
                call("shut");
                int h = random.nextBoolean() ? in(0, 20) : in(0, 400), side = bit();
                return pair(d.shut(h, side), o.shut(h, side));
            }
            case 9: {
                call("geared");
                int f = figure(), g = in(1, 3), part = bit();
                return pair(d.geared(f, g, part), o.geared(f, g, part));
            }
            case 10: {
                call("moment");
                int f = figure(), m = in(0, 2), part = bit();
                return pair(d.moment(f, m, part), o.moment(f, m, part));
            }
            case 11: {
                call("arm");
                boolean near = random.nextBoolean();
                int u = in(near ? -reach : -200, near ? reach : 200), v = in(-reach, reach);
                int a = in(1, near ? 2 * reach : 400), b = in(-100, 100);
                return pair(d.arm(u, v, a, b), o.arm(u, v, a, b));
            }
            default:
                return armCall(kind);
        }
    }

    private long[] railToo() {
        call("rail");
        // Near the rod's length to the left of the figure it is that the foot runs.
        int was = d.rod(1);
        d.rod(was);
        used += 2;
        int f = figure();
        int a = random.nextInt(4) == 0 ? in(-1000, 1000) : in(-was - reach - 1, reach - was / 2);
        int b = random.nextInt(3) == 0 ? 1000 : in(-was - reach, reach + 1);
        return pair(d.rail(f, a, b), o.rail(f, a, b));
    }

    private long[] armCall(int kind) {
        switch (kind) {
            case 12: {
                call("ring");
                int f = figure(), what = bit();
                return pair(d.ring(f, what), o.ring(f, what));
            }
            case 13: case 14: {
                call("reaches");
                int f = figure();
                return pair(d.reaches(f), o.reaches(f));
            }
            case 15: {
                call("teeth");
                int u = in(1, 1000), t = in(1, 10000);
                return pair(d.teeth(u, t), o.teeth(u, t));
            }
            case 16: {
                call("count");
                int f = figure();
                return pair(d.count(f), o.count(f));
            }
            case 17: {
                call("may");
                int c = in(0, 100), n = in(0, 10), s = in(0, 10), side = bit(), part = bit();
                return pair(d.may(c, n, s, side, part), o.may(c, n, s, side, part));
            }
            default: {
                call("fits");
                int f = figure(), c = in(0, 20), n = in(0, 3), s = in(0, 3);
                return pair(d.fits(f, c, n, s), o.fits(f, c, n, s));
            }
        }
    }
}
