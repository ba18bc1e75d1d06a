/**
 * Areas drawn round: figures of straight sides, the wheel of a rod on a rail or on an arm that is led
 * round them, wheels of teeth, figures joined and parted. What each call answers stands in DOC.md.
 *
 * No call makes an object: all rows are made in the constructor.
 */
public final class DrawnAreas {
    public static final int NONE = -6, UNKNOWN = -1, OUTSIDE = -2, STATE = -3, FULL = -4, NO = -5;
    public static final long LOST = -1000000000000000000L;

    private static final int FIGURES = 6;
    private static final int MOST_POINTS = 24;
    private static final int LEAST_CLOSED = 3;
    private static final int POINT_REACH = 100;
    private static final int PLACE_REACH = 300;
    private static final int ROD_MOST = 400;
    private static final int RAIL_REACH = 1000;
    private static final int FOOT_REACH = 200;
    private static final int ARM_MOST = 400;
    private static final int WHEEL_REACH = 100;
    private static final int ROUND_MOST = 1000;
    private static final int TEETH_MOST = 10000;
    private static final int COUNT_MOST = 1000000;
    private static final int SLIPS_MOST = 100;
    // at() and winds() answer small numbers below 0 too, so their refusals lie lower.
    private static final int LOWER = -1000;
    private static final long ROOT_SCALE = 1000000L;
    private static final long SHUT_SCALE = 1000000000L;
    // 2 to this is above the greatest root: 1000 times ROD_MOST.
    private static final int ROOT_BITS = 19;
    // Euclid's steps on two longs are fewer than this.
    private static final int DIVISOR_STEPS = 100;

    private final Figure[] figures;
    private int rodLength;
    private int roundLength;
    private int toothNumber;
    private int footX;
    private int footY;
    private int armLength;
    private int wheelBeyond;

    public DrawnAreas() {
        figures = new Figure[FIGURES];
        for (int i = 0; i < figures.length; i++) {
            figures[i] = new Figure();
        }
        rodLength = 150;
        roundLength = 60;
        toothNumber = 1000;
        footX = 0;
        footY = 0;
        armLength = 100;
        wheelBeyond = 0;
    }

    // ---- 1 figures

    public int point(int figure, int x, int y) {
        Figure f = find(figure);
        if (f == null) {
            return UNKNOWN;
        }
        if (!within(x, POINT_REACH) || !within(y, POINT_REACH)) {
            return OUTSIDE;
        }
        if (f.size >= MOST_POINTS) {
            return FULL;
        }
        f.add(x, y);
        return f.size - 1;
    }

    public int move(int figure, int i, int x, int y) {
        Figure f = find(figure);
        if (f == null || !f.has(i)) {
            return UNKNOWN;
        }
        if (!within(x, POINT_REACH) || !within(y, POINT_REACH)) {
            return OUTSIDE;
        }
        f.put(i, x, y);
        return 1;
    }

    public int clear(int figure) {
        Figure f = find(figure);
        if (f == null) {
            return UNKNOWN;
        }
        int were = f.size;
        f.size = 0;
        return were;
    }

    public int at(int figure, int i, int what) {
        Figure f = find(figure);
        if (f == null) {
            return LOWER + UNKNOWN;
        }
        if (i == -1) {
            return f.size;
        }
        if (!f.has(i)) {
            return LOWER + UNKNOWN;
        }
        if (!zeroOrOne(what)) {
            return LOWER + OUTSIDE;
        }
        return what == 0 ? f.x(i) : f.y(i);
    }

    public int copy(int a, int b, boolean turned) {
        Figure from = find(a);
        Figure into = find(b);
        if (from == null || into == null) {
            return UNKNOWN;
        }
        if (a != b) {
            into.become(from);
        }
        if (turned) {
            into.turn();
        }
        return into.size;
    }

    public long twice(int figure) {
        Figure f = find(figure);
        if (f == null) {
            return LOST + UNKNOWN;
        }
        if (!f.closed()) {
            return LOST + STATE;
        }
        return f.doubleArea();
    }

    public int simple(int figure) {
        Figure f = find(figure);
        if (f == null) {
            return UNKNOWN;
        }
        return oneIf(f.closed() && f.neverMeetsItself());
    }

    public int winds(int figure, int x, int y) {
        Figure f = find(figure);
        if (f == null) {
            return LOWER + UNKNOWN;
        }
        if (!within(x, PLACE_REACH) || !within(y, PLACE_REACH)) {
            return LOWER + OUTSIDE;
        }
        if (!f.closed()) {
            return LOWER + STATE;
        }
        return f.carries(x, y) ? LOWER + NONE : f.turnsRound(x, y);
    }

    // ---- 2 the rail

    public int rod(int v) {
        if (!from1To(v, ROD_MOST)) {
            return OUTSIDE;
        }
        int was = rodLength;
        rodLength = v;
        return was;
    }

    public long told(int figure, int n, int part) {
        Figure f = find(figure);
        if (f == null) {
            return LOST + UNKNOWN;
        }
        if (!from0To(n, f.size) || !zeroOrOne(part)) {
            return LOST + OUTSIDE;
        }
        if (!goesRound(f)) {
            return LOST + STATE;
        }
        return fraction(f.alongX(1, n), 2L * rodLength, part);
    }

    public int can(int figure) {
        Figure f = find(figure);
        if (f == null) {
            return UNKNOWN;
        }
        if (!f.closed()) {
            return STATE;
        }
        return oneIf(goesRound(f));
    }

    public int rail(int figure, int a, int b) {
        Figure f = find(figure);
        if (f == null) {
            return UNKNOWN;
        }
        if (!within(a, RAIL_REACH) || !within(b, RAIL_REACH) || a > b) {
            return OUTSIDE;
        }
        if (!f.closed()) {
            return STATE;
        }
        return oneIf(goesRound(f) && neverLeftOf(f, a) && neverRightOf(f, b));
    }

    public long shut(int h, int side) {
        if (!from0To(h, rodLength - 1) || !zeroOrOne(side)) {
            return LOST + OUTSIDE;
        }
        return side == 0 ? shutLow(h) : shutHigh(h);
    }

    public long geared(int figure, int g, int part) {
        Figure f = find(figure);
        if (f == null) {
            return LOST + UNKNOWN;
        }
        if (!from1To(g, 3) || !zeroOrOne(part)) {
            return LOST + OUTSIDE;
        }
        if (!goesRound(f)) {
            return LOST + STATE;
        }
        return gearedRound(f, g, part);
    }

    public long moment(int figure, int m, int part) {
        Figure f = find(figure);
        if (f == null) {
            return LOST + UNKNOWN;
        }
        if (!from0To(m, 2) || !zeroOrOne(part)) {
            return LOST + OUTSIDE;
        }
        if (!f.closed()) {
            return LOST + STATE;
        }
        // alongX() tells the sum (power and 1) times; the moment is by (m and 1) besides.
        return fraction(-f.alongX(m + 1, f.size), (m + 2L) * (m + 1L), part);
    }

    // ---- 3 the arm

    public int arm(int u, int v, int a, int b) {
        if (!within(u, FOOT_REACH) || !within(v, FOOT_REACH)) {
            return OUTSIDE;
        }
        if (!from1To(a, ARM_MOST) || !within(b, WHEEL_REACH)) {
            return OUTSIDE;
        }
        footX = u;
        footY = v;
        armLength = a;
        wheelBeyond = b;
        return 1;
    }

    public long ring(int figure, int what) {
        Figure f = find(figure);
        if (f == null) {
            return LOST + UNKNOWN;
        }
        if (!zeroOrOne(what)) {
            return LOST + OUTSIDE;
        }
        if (!f.closed()) {
            return LOST + STATE;
        }
        if (f.carries(footX, footY)) {
            return LOST + NO;
        }
        return what == 0 ? withPi() : f.turnsRound(footX, footY);
    }

    public int reaches(int figure) {
        Figure f = find(figure);
        if (f == null) {
            return UNKNOWN;
        }
        if (!f.closed()) {
            return STATE;
        }
        return oneIf(beyondFolded(f) && withinStretched(f));
    }

    // ---- 4 teeth

    public int teeth(int u, int t) {
        if (!from1To(u, ROUND_MOST) || !from1To(t, TEETH_MOST)) {
            return OUTSIDE;
        }
        roundLength = u;
        toothNumber = t;
        return 1;
    }

    public long count(int figure) {
        Figure f = find(figure);
        if (f == null) {
            return LOST + UNKNOWN;
        }
        if (!goesRound(f)) {
            return LOST + STATE;
        }
        return cut(Math.abs(f.alongX(1, f.size)) * toothNumber, 2L * rodLength * roundLength);
    }

    public long may(int c, int n, int s, int side, int part) {
        if (!readable(c, n, s) || !zeroOrOne(side) || !zeroOrOne(part)) {
            return LOST + OUTSIDE;
        }
        long teethTold = side == 0 ? leastTeeth(c, n, s) : belowTeeth(c, n, s);
        return fraction(teethTold * roundLength * rodLength, toothNumber, part);
    }

    public int fits(int figure, int c, int n, int s) {
        Figure f = find(figure);
        if (f == null) {
            return UNKNOWN;
        }
        if (!readable(c, n, s)) {
            return OUTSIDE;
        }
        if (!f.closed()) {
            return STATE;
        }
        // Both sides times 2 and T: so nothing is cut.
        long size = Math.abs(f.doubleArea()) * toothNumber;
        long perTooth = 2L * roundLength * rodLength;
        return oneIf(size >= leastTeeth(c, n, s) * perTooth && size < belowTeeth(c, n, s) * perTooth);
    }

    // ---- 5 joined, parted

    public int join(int a, int side, int b, int side2) {
        Figure f = find(a);
        Figure g = find(b);
        if (f == null || g == null || a == b || !f.has(side) || !g.has(side2)) {
            return UNKNOWN;
        }
        if (!f.closed() || !g.closed()) {
            return STATE;
        }
        if (f.size + g.size - 2 > MOST_POINTS) {
            return FULL;
        }
        if (!f.samePlace(side, g, g.next(side2)) || !f.samePlace(f.next(side), g, side2)) {
            return NO;
        }
        f.takeIn(side, g, side2);
        return f.size;
    }

    public int part(int a, int b, int h) {
        Figure from = find(a);
        Figure into = find(b);
        if (from == null || into == null || a == b) {
            return UNKNOWN;
        }
        if (!within(h, POINT_REACH)) {
            return OUTSIDE;
        }
        if (!from.closed()) {
            return STATE;
        }
        if (from.placesFrom(h) > MOST_POINTS) {
            return FULL;
        }
        if (!from.crossesWhole(h)) {
            return NO;
        }
        into.becomeUpper(from, h);
        return into.size;
    }

    // ---- what the calls are made of

    private Figure find(int figure) {
        return figure >= 0 && figure < figures.length ? figures[figure] : null;
    }

    private static boolean within(int v, int reach) {
        return v >= -reach && v <= reach;
    }

    private static boolean from0To(int v, int most) {
        return v >= 0 && v <= most;
    }

    private static boolean from1To(int v, int most) {
        return v >= 1 && v <= most;
    }

    private static boolean zeroOrOne(int v) {
        return v == 0 || v == 1;
    }

    private static int oneIf(boolean holds) {
        return holds ? 1 : 0;
    }

    private static long cut(long upper, long lower) {
        return lower > 0 ? upper / lower : 0;
    }

    private static long fraction(long upper, long lower, int part) {
        long common = commonDivisor(Math.abs(upper), lower);
        return cut(part == 0 ? upper : lower, common);
    }

    private static long commonDivisor(long a, long b) {
        long greater = a;
        long less = b;
        for (int step = 0; step < DIVISOR_STEPS && less != 0; step++) {
            long rest = greater % less;
            greater = less;
            less = rest;
        }
        return greater;
    }

    private static long rootOf(long v) {
        long root = 0;
        for (int bit = ROOT_BITS - 1; bit >= 0; bit--) {
            long tried = root + (1L << bit);
            if (tried * tried <= v) {
                root = tried;
            }
        }
        return root;
    }

    private boolean goesRound(Figure f) {
        return f.closed() && f.staysNearer(rodLength);
    }

    // The FOOT is left of a, where the POINTER is itself, or is within the ROD's circle round a.
    private boolean neverLeftOf(Figure f, int a) {
        long square = (long) rodLength * rodLength;
        for (int i = 0; i < f.size; i++) {
            if (f.x(i) < a || f.nearestAgainst(i, a, 0, square) < 0) {
                return false;
            }
        }
        return true;
    }

    // Along a SIDE the FOOT is farthest right at one of its ends, so the POINTS are enough.
    private boolean neverRightOf(Figure f, int b) {
        long square = (long) rodLength * rodLength;
        for (int i = 0; i < f.size; i++) {
            if (f.x(i) > b && f.squareTo(i, b, 0) > square) {
                return false;
            }
        }
        return true;
    }

    private long shutLow(int h) {
        long sum = 0;
        for (int t = 0; t < h; t++) {
            sum += cut(t * (t * SHUT_SCALE), rodLength * (heightRoot(t) + 1));
        }
        return sum;
    }

    private long shutHigh(int h) {
        long sum = 0;
        for (int t = 1; t <= h; t++) {
            sum += 1 + cut(t * (t * SHUT_SCALE), rodLength * heightRoot(t));
        }
        return sum;
    }

    private long heightRoot(int t) {
        return rootOf(ROOT_SCALE * (rodLength * rodLength - t * t));
    }

    // alongX() tells the sum (power and 1) times; the 1 in the cosine comes to nothing all round.
    private long gearedRound(Figure f, int g, int part) {
        long square = (long) rodLength * rodLength;
        long heights = f.alongX(1, f.size);
        if (g == 1) {
            return fraction(heights, 2L * rodLength, part);
        }
        if (g == 2) {
            return fraction(-2 * f.alongX(2, f.size), 3 * square, part);
        }
        long cubes = f.alongX(3, f.size);
        return fraction(3 * square * heights - 2 * cubes, 2 * square * rodLength, part);
    }

    private long withPi() {
        return armLength * armLength + rodLength * rodLength + 2 * wheelBeyond * rodLength;
    }

    private boolean beyondFolded(Figure f) {
        long folded = armLength - rodLength;
        for (int i = 0; i < f.size; i++) {
            if (f.nearestAgainst(i, footX, footY, folded * folded) <= 0) {
                return false;
            }
        }
        return true;
    }

    // Along a SIDE the farthest is one of its ends, so the POINTS are enough.
    private boolean withinStretched(Figure f) {
        long stretched = armLength + rodLength;
        for (int i = 0; i < f.size; i++) {
            if (f.squareTo(i, footX, footY) >= stretched * stretched) {
                return false;
            }
        }
        return true;
    }

    private static boolean readable(int c, int n, int s) {
        return from0To(c, COUNT_MOST) && from0To(n, SLIPS_MOST) && from0To(s, SLIPS_MOST);
    }

    private static long leastTeeth(int c, int n, int s) {
        return Math.max(0, c - n * s);
    }

    private static long belowTeeth(int c, int n, int s) {
        return c + 1 + n * s;
    }

    /** A figure's POINTS, and what its SIDES alone tell: neither rod nor rail nor arm is known here. */
    private static final class Figure {
        private final int[] xs;
        private final int[] ys;
        private int size;

        Figure() {
            xs = new int[MOST_POINTS];
            ys = new int[MOST_POINTS];
            size = 0;
        }

        boolean has(int i) {
            return i >= 0 && i < size;
        }

        boolean closed() {
            return size >= LEAST_CLOSED;
        }

        int x(int i) {
            return i >= 0 && i < xs.length ? xs[i] : 0;
        }

        int y(int i) {
            return i >= 0 && i < ys.length ? ys[i] : 0;
        }

        int next(int i) {
            return i + 1 < size ? i + 1 : 0;
        }

        void put(int i, int x, int y) {
            if (i >= 0 && i < xs.length && i < ys.length) {
                xs[i] = x;
                ys[i] = y;
            }
        }

        void add(int x, int y) {
            if (size < MOST_POINTS) {
                put(size, x, y);
                size++;
            }
        }

        void become(Figure other) {
            size = 0;
            for (int i = 0; i < other.size; i++) {
                add(other.x(i), other.y(i));
            }
        }

        // POINT 0 keeps its place, the others change places from both ends.
        void turn() {
            for (int i = 1; i < size - i; i++) {
                int j = size - i;
                int keptX = x(i);
                int keptY = y(i);
                put(i, x(j), y(j));
                put(j, keptX, keptY);
            }
        }

        long doubleArea() {
            long sum = 0;
            for (int i = 0; i < size; i++) {
                int j = next(i);
                sum += x(i) * y(j) - x(j) * y(i);
            }
            return sum;
        }

        /** y to a power along x over the first pieces, (power and 1) times: so it is whole. */
        long alongX(int power, int pieces) {
            long sum = 0;
            for (int i = 0; i < pieces; i++) {
                int j = next(i);
                sum += (x(j) - x(i)) * mixedPowers(y(i), y(j), power);
            }
            return sum;
        }

        // The sum of all products of so many factors, each a or b, by how many are b.
        private static long mixedPowers(long a, long b, int power) {
            long sum = 1;
            long powerOfB = 1;
            for (int k = 0; k < power; k++) {
                powerOfB *= b;
                sum = sum * a + powerOfB;
            }
            return sum;
        }

        boolean staysNearer(int height) {
            for (int i = 0; i < size; i++) {
                if (Math.abs(y(i)) >= height) {
                    return false;
                }
            }
            return true;
        }

        // ---- how SIDES lie to places and to each other

        /** Above 0, if the place is left of SIDE i, 0 on its line: twice the area of the three. */
        private long leftOf(int i, long px, long py) {
            int j = next(i);
            return (x(j) - x(i)) * (py - y(i)) - (px - x(i)) * (y(j) - y(i));
        }

        private static boolean between(long v, int end, int otherEnd) {
            return v >= Math.min(end, otherEnd) && v <= Math.max(end, otherEnd);
        }

        private boolean sideCarries(int i, int px, int py) {
            int j = next(i);
            return leftOf(i, px, py) == 0 && between(px, x(i), x(j)) && between(py, y(i), y(j));
        }

        boolean carries(int px, int py) {
            for (int i = 0; i < size; i++) {
                if (sideCarries(i, px, py)) {
                    return true;
                }
            }
            return false;
        }

        // What crosses the line from the place to the right; a SIDE's lower end counts to it, its
        // upper end does not, so a POINT on that line counts once.
        int turnsRound(int px, int py) {
            int turns = 0;
            for (int i = 0; i < size; i++) {
                boolean fromUpper = y(i) > py;
                boolean toUpper = y(next(i)) > py;
                long left = leftOf(i, px, py);
                if (!fromUpper && toUpper && left > 0) {
                    turns++;
                }
                if (fromUpper && !toUpper && left < 0) {
                    turns--;
                }
            }
            return turns;
        }

        boolean neverMeetsItself() {
            for (int i = 0; i < size; i++) {
                if (samePlace(i, this, next(i)) || foldsBack(i)) {
                    return false;
                }
                for (int j = i + 2; j < size; j++) {
                    if (next(j) != i && sidesMeet(i, j)) {
                        return false;
                    }
                }
            }
            return true;
        }

        // Neighbours have more in common than their POINT only if the second goes back on the first.
        private boolean foldsBack(int i) {
            int j = next(i);
            int k = next(j);
            int onward = (x(j) - x(i)) * (x(k) - x(j)) + (y(j) - y(i)) * (y(k) - y(j));
            return onward < 0 && leftOf(i, x(k), y(k)) == 0;
        }

        private boolean sidesMeet(int i, int j) {
            if (sideCarries(i, x(j), y(j)) || sideCarries(i, x(next(j)), y(next(j)))) {
                return true;
            }
            if (sideCarries(j, x(i), y(i)) || sideCarries(j, x(next(i)), y(next(i)))) {
                return true;
            }
            return parts(i, j) && parts(j, i);
        }

        // Whether the ends of SIDE j lie on both sides of SIDE i's line, none on it.
        private boolean parts(int i, int j) {
            long begin = leftOf(i, x(j), y(j));
            long end = leftOf(i, x(next(j)), y(next(j)));
            return begin < 0 && end > 0 || begin > 0 && end < 0;
        }

        long squareTo(int i, long px, long py) {
            long dx = px - x(i);
            long dy = py - y(i);
            return dx * dx + dy * dy;
        }

        /** Below 0, 0, above 0: the square of SIDE i's least distance from the place against square. */
        int nearestAgainst(int i, int px, int py, long square) {
            int j = next(i);
            long dx = x(j) - x(i);
            long dy = y(j) - y(i);
            long length = dx * dx + dy * dy;
            long along = dx * (px - x(i)) + dy * (py - y(i));
            if (along <= 0) {
                return Long.compare(squareTo(i, px, py), square);
            }
            if (along >= length) {
                return Long.compare(squareTo(j, px, py), square);
            }
            long left = leftOf(i, px, py);
            return Long.compare(left * left, square * length);
        }

        // ---- joined, parted

        boolean samePlace(int i, Figure other, int j) {
            return x(i) == other.x(j) && y(i) == other.y(j);
        }

        // The rest moves up from its end on, so that no POINT is lost before it has moved.
        void takeIn(int side, Figure other, int side2) {
            int more = other.size - 2;
            for (int i = size - 1; i > side; i--) {
                put(i + more, x(i), y(i));
            }
            int from = other.next(other.next(side2));
            for (int k = 1; k <= more; k++) {
                put(side + k, other.x(from), other.y(from));
                from = other.next(from);
            }
            size += more;
        }

        private boolean crosses(int i, int h) {
            int begin = y(i);
            int end = y(next(i));
            return begin < h && end > h || begin > h && end < h;
        }

        private int crossingUpper(int i, int h) {
            return (x(next(i)) - x(i)) * (h - y(i));
        }

        private int crossingLower(int i) {
            return y(next(i)) - y(i);
        }

        /** How many POINTS are at h or above it, and places at which SIDES cross h, whole or not. */
        int placesFrom(int h) {
            int places = 0;
            for (int i = 0; i < size; i++) {
                if (y(i) >= h) {
                    places++;
                }
                if (crosses(i, h)) {
                    places++;
                }
            }
            return places;
        }

        boolean crossesWhole(int h) {
            for (int i = 0; i < size; i++) {
                int lower = crossingLower(i);
                if (lower != 0 && crosses(i, h) && crossingUpper(i, h) % lower != 0) {
                    return false;
                }
            }
            return true;
        }

        void becomeUpper(Figure from, int h) {
            size = 0;
            for (int i = 0; i < from.size; i++) {
                if (from.y(i) >= h) {
                    add(from.x(i), from.y(i));
                }
                int lower = from.crossingLower(i);
                if (lower != 0 && from.crosses(i, h)) {
                    add(from.x(i) + from.crossingUpper(i, h) / lower, h);
                }
            }
        }
    }
}
