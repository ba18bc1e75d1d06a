import java.math.BigInteger;
import java.util.ArrayList;
import java.util.List;

/** The document's words once more, by other ways than the class takes: fractions, lists, angles. */
final class Oracle {
    private static final long LOST = -1000000000000000000L;

    /** A fraction in lowest terms. */
    static final class Frac implements Comparable<Frac> {
        static final Frac ZERO = of(0);
        final BigInteger up;
        final BigInteger low;

        Frac(BigInteger up, BigInteger low) {
            BigInteger g = up.gcd(low);
            if (low.signum() < 0) {
                g = g.negate();
            }
            this.up = up.divide(g);
            this.low = low.divide(g);
        }

        static Frac of(long v) {
            return new Frac(BigInteger.valueOf(v), BigInteger.ONE);
        }

        Frac plus(Frac o) {
            return new Frac(up.multiply(o.low).add(o.up.multiply(low)), low.multiply(o.low));
        }

        Frac less(Frac o) {
            return plus(o.times(of(-1)));
        }

        Frac times(Frac o) {
            return new Frac(up.multiply(o.up), low.multiply(o.low));
        }

        Frac by(Frac o) {
            return new Frac(up.multiply(o.low), low.multiply(o.up));
        }

        Frac to(int power) {
            return new Frac(up.pow(power), low.pow(power));
        }

        Frac size() {
            return new Frac(up.abs(), low);
        }

        long part(int part) {
            return (part == 0 ? up : low).longValueExact();
        }

        @Override
        public int compareTo(Frac o) {
            return less(o).up.signum();
        }
    }

    private final List<List<int[]>> figures = new ArrayList<>();
    private int rod = 150;
    private int u = 60;
    private int t = 1000;
    private int footX = 0;
    private int footY = 0;
    private int arm = 100;
    private int beyond = 0;

    Oracle() {
        for (int i = 0; i < 6; i++) {
            figures.add(new ArrayList<>());
        }
    }

    private boolean no(int figure) {
        return figure < 0 || figure > 5;
    }

    private static boolean out(int v, int least, int most) {
        return v < least || v > most;
    }

    private boolean noPoint(int figure, int i) {
        return no(figure) || i < 0 || i >= figures.get(figure).size();
    }

    private boolean open(int figure) {
        return figures.get(figure).size() < 3;
    }

    private int[] begin(int figure, int i) {
        return figures.get(figure).get(i);
    }

    private int[] end(int figure, int i) {
        List<int[]> f = figures.get(figure);
        return f.get((i + 1) % f.size());
    }

    private int sides(int figure) {
        return figures.get(figure).size();
    }

    int point(int figure, int x, int y) {
        if (no(figure)) return -1;
        if (out(x, -100, 100) || out(y, -100, 100)) return -2;
        if (sides(figure) == 24) return -4;
        figures.get(figure).add(new int[] {x, y});
        return sides(figure) - 1;
    }

    int move(int figure, int i, int x, int y) {
        if (noPoint(figure, i)) return -1;
        if (out(x, -100, 100) || out(y, -100, 100)) return -2;
        figures.get(figure).set(i, new int[] {x, y});
        return 1;
    }

    int clear(int figure) {
        if (no(figure)) return -1;
        int were = sides(figure);
        figures.get(figure).clear();
        return were;
    }

    int at(int figure, int i, int what) {
        if (no(figure)) return -1001;
        if (i == -1) return sides(figure);
        if (noPoint(figure, i)) return -1001;
        return out(what, 0, 1) ? -1002 : begin(figure, i)[what];
    }

    int copy(int a, int b, boolean turned) {
        if (no(a) || no(b)) return -1;
        List<int[]> made = new ArrayList<>();
        int n = sides(a);
        for (int i = 0; i < n; i++) {
            made.add(begin(a, turned ? (n - i) % n : i));
        }
        figures.set(b, made);
        return n;
    }

    private long doubled(int figure) {
        long sum = 0;
        for (int i = 0; i < sides(figure); i++) {
            int[] p = begin(figure, i);
            int[] q = end(figure, i);
            sum += (long) p[0] * q[1] - (long) q[0] * p[1];
        }
        return sum;
    }

    long twice(int figure) {
        if (no(figure)) return LOST - 1;
        return open(figure) ? LOST - 3 : doubled(figure);
    }

    private static long cross(long ax, long ay, long bx, long by) {
        return ax * by - ay * bx;
    }

    /** How many places two stretches have in common: 0, 1, or 2 for more. */
    private static int common(int[] p, int[] p2, int[] q, int[] q2) {
        long rx = p2[0] - p[0], ry = p2[1] - p[1], sx = q2[0] - q[0], sy = q2[1] - q[1];
        long wx = q[0] - p[0], wy = q[1] - p[1];
        long det = cross(rx, ry, sx, sy);
        if (det != 0) {
            Frac along = new Frac(BigInteger.valueOf(cross(wx, wy, sx, sy)), BigInteger.valueOf(det));
            Frac along2 = new Frac(BigInteger.valueOf(cross(wx, wy, rx, ry)), BigInteger.valueOf(det));
            return from0To1(along) && from0To1(along2) ? 1 : 0;
        }
        if (cross(wx, wy, rx, ry) != 0) return 0;
        long a = wx * rx + wy * ry;
        long b = a + sx * rx + sy * ry;
        long low = Math.max(0, Math.min(a, b));
        long high = Math.min(rx * rx + ry * ry, Math.max(a, b));
        return low > high ? 0 : low == high ? 1 : 2;
    }

    private static boolean from0To1(Frac f) {
        return f.compareTo(Frac.ZERO) >= 0 && f.compareTo(Frac.of(1)) <= 0;
    }

    int simple(int figure) {
        if (no(figure)) return -1;
        if (open(figure)) return 0;
        int n = sides(figure);
        for (int i = 0; i < n; i++) {
            if (begin(figure, i)[0] == end(figure, i)[0] && begin(figure, i)[1] == end(figure, i)[1]) return 0;
        }
        for (int i = 0; i < n; i++) {
            for (int j = 0; j < n; j++) {
                if (i == j) continue;
                boolean near = (i + 1) % n == j || (j + 1) % n == i;
                int have = common(begin(figure, i), end(figure, i), begin(figure, j), end(figure, j));
                if (have > (near ? 1 : 0)) return 0;
            }
        }
        return 1;
    }

    private boolean carried(int figure, int x, int y) {
        for (int i = 0; i < sides(figure); i++) {
            long ax = begin(figure, i)[0] - x, ay = begin(figure, i)[1] - y;
            long bx = end(figure, i)[0] - x, by = end(figure, i)[1] - y;
            if (cross(ax, ay, bx, by) == 0 && ax * bx + ay * by <= 0) return true;
        }
        return false;
    }

    private int windsRound(int figure, int x, int y) {
        double angle = 0;
        for (int i = 0; i < sides(figure); i++) {
            long ax = begin(figure, i)[0] - x, ay = begin(figure, i)[1] - y;
            long bx = end(figure, i)[0] - x, by = end(figure, i)[1] - y;
            angle += Math.atan2(cross(ax, ay, bx, by), ax * bx + ay * by);
        }
        return (int) Math.round(angle / (2 * Math.PI));
    }

    int winds(int figure, int x, int y) {
        if (no(figure)) return -1001;
        if (out(x, -300, 300) || out(y, -300, 300)) return -1002;
        if (open(figure)) return -1003;
        return carried(figure, x, y) ? -1006 : windsRound(figure, x, y);
    }

    int rod(int v) {
        if (out(v, 1, 400)) return -2;
        int was = rod;
        rod = v;
        return was;
    }

    private boolean goes(int figure) {
        if (open(figure)) return false;
        for (int[] p : figures.get(figure)) {
            if (p[1] >= rod || -p[1] >= rod) return false;
        }
        return true;
    }

    /** y to a power along x over a piece: by the difference of the next powers, unless it is level. */
    private Frac along(int figure, int i, int power) {
        int[] p = begin(figure, i);
        int[] q = end(figure, i);
        Frac wide = Frac.of(q[0] - p[0]);
        if (p[1] == q[1]) return wide.times(Frac.of(p[1]).to(power));
        Frac ends = Frac.of(q[1]).to(power + 1).less(Frac.of(p[1]).to(power + 1));
        return wide.times(ends).by(Frac.of((long) (power + 1) * (q[1] - p[1])));
    }

    private Frac alongAll(int figure, int pieces, int power) {
        Frac sum = Frac.ZERO;
        for (int i = 0; i < pieces; i++) {
            sum = sum.plus(along(figure, i, power));
        }
        return sum;
    }

    long told(int figure, int n, int part) {
        if (no(figure)) return LOST - 1;
        if (out(n, 0, sides(figure)) || out(part, 0, 1)) return LOST - 2;
        if (!goes(figure)) return LOST - 3;
        return alongAll(figure, n, 1).by(Frac.of(rod)).part(part);
    }

    int can(int figure) {
        if (no(figure)) return -1;
        if (open(figure)) return -3;
        return goes(figure) ? 1 : 0;
    }

    /** The least square of the distance from a place to a SIDE, by the lowest value of a quadratic. */
    private Frac leastSquare(int figure, int i, int x, int y) {
        int[] p = begin(figure, i);
        int[] q = end(figure, i);
        long dx = q[0] - p[0], dy = q[1] - p[1], wx = p[0] - x, wy = p[1] - y;
        Frac c0 = Frac.of(wx * wx + wy * wy);
        Frac c1 = Frac.of(2 * (wx * dx + wy * dy));
        Frac c2 = Frac.of(dx * dx + dy * dy);
        Frac least = c0;
        Frac atEnd = c0.plus(c1).plus(c2);
        if (atEnd.compareTo(least) < 0) least = atEnd;
        if (c2.compareTo(Frac.ZERO) == 0) return least;
        Frac place = c1.by(c2.times(Frac.of(-2)));
        if (!from0To1(place)) return least;
        Frac there = c0.plus(c1.times(place)).plus(c2.times(place).times(place));
        return there.compareTo(least) < 0 ? there : least;
    }

    private double foot(double x, double y) {
        return x - Math.sqrt((double) rod * rod - y * y);
    }

    /** Where the FOOT is farthest left on a SIDE, nearly: it falls, then rises along it. */
    private double leftmost(int figure, int i) {
        int[] p = begin(figure, i);
        int[] q = end(figure, i);
        double from = 0, to = 1;
        for (int step = 0; step < 80; step++) {
            double a = from + (to - from) / 3, b = to - (to - from) / 3;
            double fa = foot(p[0] + a * (q[0] - p[0]), p[1] + a * (q[1] - p[1]));
            double fb = foot(p[0] + b * (q[0] - p[0]), p[1] + b * (q[1] - p[1]));
            if (fa < fb) to = b;
            else from = a;
        }
        return foot(p[0] + from * (q[0] - p[0]), p[1] + from * (q[1] - p[1]));
    }

    private boolean leftOfRail(int figure, int i, int a) {
        double near = leftmost(figure, i);
        if (near < a - 0.000001) return true;
        if (near > a + 0.000001) return false;
        return leastSquare(figure, i, a, 0).compareTo(Frac.of((long) rod * rod)) < 0;
    }

    private boolean rightOfRail(int[] p, int b) {
        long over = p[0] - b;
        return over > 0 && over * over > (long) rod * rod - (long) p[1] * p[1];
    }

    int rail(int figure, int a, int b) {
        if (no(figure)) return -1;
        if (out(a, -1000, 1000) || out(b, -1000, 1000) || a > b) return -2;
        if (open(figure)) return -3;
        if (!goes(figure)) return 0;
        for (int i = 0; i < sides(figure); i++) {
            if (leftOfRail(figure, i, a) || rightOfRail(begin(figure, i), b)) return 0;
        }
        return 1;
    }

    private BigInteger root(int height) {
        return BigInteger.valueOf(1000000L * ((long) rod * rod - (long) height * height)).sqrt();
    }

    long shut(int h, int side) {
        if (out(h, 0, rod - 1) || out(side, 0, 1)) return LOST - 2;
        BigInteger sum = BigInteger.ZERO;
        for (int k = side; k <= h - 1 + side; k++) {
            BigInteger upper = BigInteger.valueOf(k).pow(2).multiply(BigInteger.TEN.pow(9));
            BigInteger s = side == 0 ? root(k).add(BigInteger.ONE) : root(k);
            sum = sum.add(upper.divide(s.multiply(BigInteger.valueOf(rod)))).add(BigInteger.valueOf(side));
        }
        return sum.longValueExact();
    }

    long geared(int figure, int g, int part) {
        if (no(figure)) return LOST - 1;
        if (out(g, 1, 3) || out(part, 0, 1)) return LOST - 2;
        if (!goes(figure)) return LOST - 3;
        int n = sides(figure);
        Frac first = alongAll(figure, n, 1).by(Frac.of(rod));
        Frac second = alongAll(figure, n, 2).by(Frac.of(rod).to(2));
        Frac third = alongAll(figure, n, 3).by(Frac.of(rod).to(3));
        if (g == 1) return first.part(part);
        if (g == 2) return alongAll(figure, n, 0).less(Frac.of(2).times(second)).part(part);
        return Frac.of(3).times(first).less(Frac.of(4).times(third)).part(part);
    }

    long moment(int figure, int m, int part) {
        if (no(figure)) return LOST - 1;
        if (out(m, 0, 2) || out(part, 0, 1)) return LOST - 2;
        if (open(figure)) return LOST - 3;
        return Frac.ZERO.less(alongAll(figure, sides(figure), m + 1)).by(Frac.of(m + 1)).part(part);
    }

    int arm(int x, int y, int a, int b) {
        if (out(x, -200, 200) || out(y, -200, 200) || out(a, 1, 400) || out(b, -100, 100)) return -2;
        footX = x;
        footY = y;
        arm = a;
        beyond = b;
        return 1;
    }

    long ring(int figure, int what) {
        if (no(figure)) return LOST - 1;
        if (out(what, 0, 1)) return LOST - 2;
        if (open(figure)) return LOST - 3;
        if (carried(figure, footX, footY)) return LOST - 5;
        if (what == 1) return windsRound(figure, footX, footY);
        return (long) arm * arm + (long) rod * rod + 2L * beyond * rod;
    }

    int reaches(int figure) {
        if (no(figure)) return -1;
        if (open(figure)) return -3;
        long folded = (long) (arm - rod) * (arm - rod);
        long stretched = (long) (arm + rod) * (arm + rod);
        for (int i = 0; i < sides(figure); i++) {
            if (leastSquare(figure, i, footX, footY).compareTo(Frac.of(folded)) <= 0) return 0;
            long dx = begin(figure, i)[0] - footX, dy = begin(figure, i)[1] - footY;
            if (dx * dx + dy * dy >= stretched) return 0;
        }
        return 1;
    }

    int teeth(int round, int number) {
        if (out(round, 1, 1000) || out(number, 1, 10000)) return -2;
        u = round;
        t = number;
        return 1;
    }

    long count(int figure) {
        if (no(figure)) return LOST - 1;
        if (!goes(figure)) return LOST - 3;
        Frac turn = alongAll(figure, sides(figure), 1).by(Frac.of(rod)).size();
        Frac told = turn.times(Frac.of(t)).by(Frac.of(u));
        return told.up.divide(told.low).longValueExact();
    }

    private Frac bound(int c, int n, int s, int side) {
        long number = side == 0 ? Math.max(0L, (long) c - (long) n * s) : (long) c + 1 + (long) n * s;
        return Frac.of(number).times(Frac.of(u)).times(Frac.of(rod)).by(Frac.of(t));
    }

    private static boolean badCount(int c, int n, int s) {
        return out(c, 0, 1000000) || out(n, 0, 100) || out(s, 0, 100);
    }

    long may(int c, int n, int s, int side, int part) {
        if (badCount(c, n, s) || out(side, 0, 1) || out(part, 0, 1)) return LOST - 2;
        return bound(c, n, s, side).part(part);
    }

    int fits(int figure, int c, int n, int s) {
        if (no(figure)) return -1;
        if (badCount(c, n, s)) return -2;
        if (open(figure)) return -3;
        Frac area = Frac.of(doubled(figure)).size().by(Frac.of(2));
        return area.compareTo(bound(c, n, s, 0)) >= 0 && area.compareTo(bound(c, n, s, 1)) < 0 ? 1 : 0;
    }

    private static boolean same(int[] p, int[] q) {
        return p[0] == q[0] && p[1] == q[1];
    }

    int join(int a, int side, int b, int side2) {
        if (a == b || noPoint(a, side) || noPoint(b, side2)) return -1;
        if (open(a) || open(b)) return -3;
        if (sides(a) + sides(b) - 2 > 24) return -4;
        if (!same(begin(a, side), end(b, side2)) || !same(end(a, side), begin(b, side2))) return -5;
        List<int[]> made = new ArrayList<>(figures.get(a).subList(0, side + 1));
        for (int k = 2; k < sides(b); k++) {
            made.add(begin(b, (side2 + k) % sides(b)));
        }
        made.addAll(figures.get(a).subList(side + 1, sides(a)));
        figures.set(a, made);
        return made.size();
    }

    int part(int a, int b, int h) {
        if (no(a) || no(b) || a == b) return -1;
        if (out(h, -100, 100)) return -2;
        if (open(a)) return -3;
        List<int[]> made = new ArrayList<>();
        boolean whole = true;
        for (int i = 0; i < sides(a); i++) {
            int[] p = begin(a, i);
            int[] q = end(a, i);
            if (p[1] >= h) made.add(p);
            if (Integer.signum(p[1] - h) * Integer.signum(q[1] - h) == -1) {
                Frac way = Frac.of(h - p[1]).by(Frac.of(q[1] - p[1]));
                Frac x = Frac.of(p[0]).plus(way.times(Frac.of(q[0] - p[0])));
                whole &= x.low.equals(BigInteger.ONE);
                made.add(new int[] {x.up.divide(x.low).intValueExact(), h});
            }
        }
        if (made.size() > 24) return -4;
        if (!whole) return -5;
        figures.set(b, made);
        return made.size();
    }
}
