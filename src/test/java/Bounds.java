import java.util.function.Supplier;

/** What the tests of boundary cases share: both ends of a range of numbers, and figures of a kind. */
final class Bounds {
    /** A call with one of its numbers left open. */
    interface Call {
        long answer(DrawnAreas d, int v);
    }

    /** Numbers far off, and such as would be in a range if they were cut to fewer bits. */
    private static final int[] FAR = {
        Integer.MIN_VALUE, Integer.MIN_VALUE + 1, Integer.MAX_VALUE, Integer.MAX_VALUE - 1, -1 << 30, 1 << 30,
        -1 << 24, 1 << 24, (1 << 24) + 1, -1 << 16, 1 << 16, (1 << 16) + 1, -256, 256, 257
    };

    private Bounds() {
    }

    /** From least to most it is taken, beyond both ends it is refused; each on an object of its own. */
    static void range(Check check, String what, Supplier<DrawnAreas> made, int least, int most, long refusal, Call call) {
        for (int v : new int[] {least, least + (most - least) / 2, most}) {
            long got = call.answer(made.get(), v);
            check.holds(what + " " + v + " is taken, answered " + got, got != refusal);
        }
        check.due(what + " " + (least - 1), call.answer(made.get(), least - 1), refusal);
        check.due(what + " " + (most + 1), call.answer(made.get(), most + 1), refusal);
        for (int v : FAR) {
            if (v < least || v > most) {
                check.due(what + " " + v, call.answer(made.get(), v), refusal);
            }
        }
    }

    /** All six FIGURES are triangles that can go; the foot is on none of their SIDES. */
    static DrawnAreas triangles() {
        DrawnAreas d = new DrawnAreas();
        for (int f = 0; f < 6; f++) {
            Check.draw(d, f, -10, -10, 20, -10, -10, 20);
        }
        return d;
    }

    /** FIGURES 0 and 5 have 24 POINTS, no two at one place. */
    static DrawnAreas full() {
        DrawnAreas d = new DrawnAreas();
        for (int i = 0; i < 24; i++) {
            d.point(0, i, -i);
            d.point(5, -i, i);
        }
        return d;
    }

    /** So many POINTS at one place. */
    static void heap(DrawnAreas d, int figure, int points, int x, int y) {
        d.clear(figure);
        for (int i = 0; i < points; i++) {
            d.point(figure, x, y);
        }
    }

    /** 24 POINTS: six times round a rectangle to the left. */
    static void sixTimes(DrawnAreas d, int figure, int left, int low, int right, int high) {
        d.clear(figure);
        for (int i = 0; i < 6; i++) {
            d.point(figure, left, low);
            d.point(figure, right, low);
            d.point(figure, right, high);
            d.point(figure, left, high);
        }
    }

    /** The same figure, begun at a later POINT: so each SIDE comes to be the last one once. */
    static void drawFrom(DrawnAreas d, int figure, int first, int... xy) {
        int n = xy.length / 2;
        d.clear(figure);
        for (int k = 0; k < n; k++) {
            int i = (first + k) % n;
            d.point(figure, xy[2 * i], xy[2 * i + 1]);
        }
    }
}
