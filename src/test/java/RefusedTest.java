import java.util.Set;
import java.util.TreeSet;

/**
 * "Calls that are refused answer, the first of these that fits: .. They change nothing." Each number of a call
 * is tried with fitting and with wrong values, all of them together: the first refusal that fits must come,
 * and all that an object holds must be as before. What calls that are taken change is looked at as well.
 */
public final class RefusedTest {
    private static final Check CHECK = new Check("RefusedTest");
    private static final long LOST = DrawnAreas.LOST;
    private static final int FINE = 0, UNKNOWN = 1, OUTSIDE = 2, STATE = 3, FULL = 4, NO = 5;
    private static final int PLACES = 1 + 2 * 24;

    // A value, and what it alone would be refused with.
    private static final int[] NO_FIGURE = {6, UNKNOWN};
    private static final int[] NO_FIGURE_BELOW = {-1, UNKNOWN};
    private static final int[][] SOME_FIGURE = {{0, FINE}, {2, FINE}, {3, FINE}, {5, FINE}, NO_FIGURE, NO_FIGURE_BELOW};
    private static final int[][] CLOSED = {{0, FINE}, {1, FINE}, {2, STATE}, {3, STATE}, NO_FIGURE, NO_FIGURE_BELOW};
    private static final int[][] GOING = {{0, FINE}, {1, STATE}, {2, STATE}, {3, STATE}, NO_FIGURE, NO_FIGURE_BELOW};
    private static final int[][] BIT = {{0, FINE}, {1, FINE}, {-1, OUTSIDE}, {2, OUTSIDE}};
    private static final int[][] PLACE = to(-100, 100);

    /** A call of the face with all its numbers. */
    private interface Face {
        long answer(DrawnAreas d, int[] v);
    }

    public static void main(String[] args) {
        CHECK.says("They change nothing");
        figures();
        rail();
        arm();
        teeth();
        joined();
        joinedInPairs();
        CHECK.says("Nothing is promised beyond the answers and state changes described above");
        whatTakenCallsChange();
        CHECK.end();
    }

    /**
     * FIGURE 0 can go, 1 can't and has the foot on a SIDE, 2 has two POINTS, 3 none, 4 has 24 and crosses
     * height 0 at far more places, some not whole, 5 fits to 0 along the first SIDES.
     */
    private static DrawnAreas state() {
        DrawnAreas d = new DrawnAreas();
        Check.draw(d, 0, -10, -10, 20, -10, -10, 20);
        Check.draw(d, 1, 0, 0, 40, 30, 0, 40);
        Check.draw(d, 2, 0, -1, 1, 1);
        for (int i = 0; i < 24; i++) {
            d.point(4, i, i % 2 == 0 ? 1 : -1);
        }
        Check.draw(d, 5, 20, -10, -10, -10, 5, -30);
        d.rod(30);
        d.arm(4, 3, 17, -5);
        d.teeth(7, 13);
        return d;
    }

    /** All that an object holds, as far as answers can show it; the object is spent thereafter. */
    private static long[] held(DrawnAreas d) {
        long[] all = new long[6 * PLACES + 6];
        for (int f = 0; f < 6; f++) {
            int points = d.at(f, -1, 0);
            all[f * PLACES] = points;
            for (int k = 0; k < 2 * points; k++) {
                all[f * PLACES + 1 + k] = d.at(f, k / 2, k % 2);
            }
        }
        int next = 6 * PLACES;
        all[next++] = d.rod(1);
        Bounds.heap(d, 0, 3, 4, 3);
        all[next++] = d.ring(0, 1);
        Bounds.heap(d, 0, 3, 90, 90);
        // A A and 1 and 2 B, A A and 4 and 4 B: so A and B are told by both.
        all[next++] = d.ring(0, 0);
        d.rod(2);
        all[next++] = d.ring(0, 0);
        d.rod(1);
        all[next++] = d.may(1, 0, 0, 0, 0);
        all[next] = d.may(1, 0, 0, 0, 1);
        return all;
    }

    private static String partOf(int k) {
        if (k < 6 * PLACES) {
            return "figure " + k / PLACES;
        }
        int beyond = k - 6 * PLACES;
        return beyond == 0 ? "rod" : beyond < 4 ? "arm" : "teeth";
    }

    private static Set<String> changed(DrawnAreas d) {
        long[] before = held(state());
        long[] after = held(d);
        Set<String> parts = new TreeSet<>();
        for (int k = 0; k < before.length; k++) {
            if (before[k] != after[k]) {
                parts.add(partOf(k));
            }
        }
        return parts;
    }

    /** From least to most, and the first beyond on both ends. */
    private static int[][] to(int least, int most) {
        return new int[][] {{least, FINE}, {most, FINE}, {least - 1, OUTSIDE}, {most + 1, OUTSIDE}};
    }

    /** All ways to choose a value for each number; base: what a refusal is taken off. */
    private static void all(String name, long base, Face face, int[][]... numbers) {
        int[] chosen = new int[numbers.length];
        boolean more = true;
        while (more) {
            int[] v = new int[numbers.length];
            int first = FINE;
            StringBuilder call = new StringBuilder(name);
            for (int k = 0; k < numbers.length; k++) {
                int[] value = numbers[k][chosen[k]];
                v[k] = value[0];
                first = first == FINE || value[1] != FINE && value[1] < first ? value[1] : first;
                call.append(' ').append(value[0]);
            }
            one(call.toString(), base, face, v, first);
            more = next(chosen, numbers);
        }
    }

    private static boolean next(int[] chosen, int[][][] numbers) {
        for (int k = 0; k < chosen.length; k++) {
            chosen[k]++;
            if (chosen[k] < numbers[k].length) {
                return true;
            }
            chosen[k] = 0;
        }
        return false;
    }

    private static void one(String call, long base, Face face, int[] v, int refusal) {
        DrawnAreas d = state();
        long got = face.answer(d, v);
        if (refusal == FINE) {
            CHECK.holds(call + " is taken, answered " + got, got < base - 6 || got > base - 1);
            return;
        }
        CHECK.due(call, got, base - refusal);
        Set<String> parts = changed(d);
        CHECK.holds(call + " changes nothing, but " + parts, parts.isEmpty());
    }

    private static void figures() {
        int[][] room = {{0, FINE}, {2, FINE}, {3, FINE}, {4, FULL}, NO_FIGURE, NO_FIGURE_BELOW};
        all("point", 0, (d, v) -> d.point(v[0], v[1], v[2]), room, PLACE, PLACE);
        int[][] two = {{0, FINE}, {1, FINE}, {-1, UNKNOWN}, {24, UNKNOWN}};
        int[][] some = {{0, FINE}, {2, FINE}, {4, FINE}, NO_FIGURE, NO_FIGURE_BELOW};
        all("move", 0, (d, v) -> d.move(v[0], v[1], v[2], v[3]), some, two, PLACE, PLACE);
        all("clear", 0, (d, v) -> d.clear(v[0]), SOME_FIGURE);
        int[][] whichPoint = {{0, FINE}, {1, FINE}, {-2, UNKNOWN}, {24, UNKNOWN}};
        all("at", -1000, (d, v) -> d.at(v[0], v[1], v[2]), some, whichPoint, BIT);
        all("copy", 0, (d, v) -> d.copy(v[0], v[1], v[2] == 1), SOME_FIGURE, SOME_FIGURE, new int[][] {{0, FINE}, {1, FINE}});
        int[][] closed = {{0, FINE}, {4, FINE}, {2, STATE}, {3, STATE}, NO_FIGURE, NO_FIGURE_BELOW};
        all("twice", LOST, (d, v) -> d.twice(v[0]), closed);
        all("simple", 0, (d, v) -> d.simple(v[0]), SOME_FIGURE);
        all("winds", -1000, (d, v) -> d.winds(v[0], v[1], v[2]), CLOSED, to(-300, 300), to(-300, 300));
        CHECK.due("winds on a side: NONE", state().winds(1, 4, 3), -1006);
        CHECK.due("winds on a side, not closed: STATE first", state().winds(2, 0, -1), -1003);
        CHECK.due("at -1 of no figure", state().at(6, -1, 0), -1001);
        CHECK.due("at -1, what 2: taken", state().at(2, -1, 2), 2);
        CHECK.due("move 0 of none, outside: UNKNOWN first", state().move(3, 0, 101, 0), -1);
        CHECK.due("at 0 of none, what 2: UNKNOWN first", state().at(3, 0, 2), -1001);
    }

    private static void rail() {
        all("rod", 0, (d, v) -> d.rod(v[0]), to(1, 400));
        // No figure here has 25 pieces, each has 0.
        int[][] pieces = {{0, FINE}, {-1, OUTSIDE}, {25, OUTSIDE}};
        all("told", LOST, (d, v) -> d.told(v[0], v[1], v[2]), GOING, pieces, BIT);
        CHECK.due("told after 3 of two: OUTSIDE first", state().told(2, 3, 0), LOST - 2);
        CHECK.due("told after 1 of none: OUTSIDE first", state().told(3, 1, 0), LOST - 2);
        CHECK.due("told after 4 of what can't go: OUTSIDE first", state().told(1, 4, 0), LOST - 2);
        all("can", 0, (d, v) -> d.can(v[0]), CLOSED);
        int[][] left = {{-1000, FINE}, {5, FINE}, {-1001, OUTSIDE}, {1001, OUTSIDE}};
        int[][] right = {{1000, FINE}, {5, FINE}, {1001, OUTSIDE}, {-1001, OUTSIDE}};
        all("rail", 0, (d, v) -> d.rail(v[0], v[1], v[2]), CLOSED, left, right);
        all("rail with a above b", 0, (d, v) -> d.rail(v[0], v[1], v[1] - 1), new int[][] {{0, OUTSIDE}, {2, OUTSIDE},
            {3, OUTSIDE}, NO_FIGURE}, new int[][] {{-999, OUTSIDE}, {0, OUTSIDE}, {1000, OUTSIDE}});
        all("shut", LOST, (d, v) -> d.shut(v[0], v[1]), to(0, 29), BIT);
        all("geared", LOST, (d, v) -> d.geared(v[0], v[1], v[2]), GOING, to(1, 3), BIT);
        all("moment", LOST, (d, v) -> d.moment(v[0], v[1], v[2]), CLOSED, to(0, 2), BIT);
    }

    private static void arm() {
        all("arm", 0, (d, v) -> d.arm(v[0], v[1], v[2], v[3]), to(-200, 200), to(-200, 200), to(1, 400), to(-100, 100));
        int[][] footOff = {{0, FINE}, {1, NO}, {2, STATE}, {3, STATE}, NO_FIGURE, NO_FIGURE_BELOW};
        all("ring", LOST, (d, v) -> d.ring(v[0], v[1]), footOff, BIT);
        DrawnAreas d = state();
        d.arm(0, -1, 5, 5);
        CHECK.due("ring, not closed, the foot on a point: STATE first", d.ring(2, 0), LOST - 3);
        all("reaches", 0, (e, v) -> e.reaches(v[0]), CLOSED);
    }

    private static void teeth() {
        all("teeth", 0, (d, v) -> d.teeth(v[0], v[1]), to(1, 1000), to(1, 10000));
        all("count", LOST, (d, v) -> d.count(v[0]), GOING);
        all("may", LOST, (d, v) -> d.may(v[0], v[1], v[2], v[3], v[4]), to(0, 1000000), to(0, 100), to(0, 100), BIT, BIT);
        all("fits", 0, (d, v) -> d.fits(v[0], v[1], v[2], v[3]), CLOSED, to(0, 1000000), to(0, 100), to(0, 100));
    }

    private static void joined() {
        int[][] first = {{0, FINE}, {2, STATE}, {4, FULL}, NO_FIGURE, NO_FIGURE_BELOW, {5, UNKNOWN}};
        int[][] side = {{0, FINE}, {-1, UNKNOWN}, {24, UNKNOWN}};
        all("join with 5", 0, (d, v) -> d.join(v[0], v[1], 5, v[2]), first, side, side);
        int[][] second = {{5, FINE}, {2, STATE}, {4, FULL}, NO_FIGURE, NO_FIGURE_BELOW, {0, UNKNOWN}};
        all("join 0", 0, (d, v) -> d.join(0, v[1], v[0], v[2]), second, side, side);
        int[][] from = {{0, FINE}, {2, STATE}, {3, STATE}, {4, FULL}, NO_FIGURE, NO_FIGURE_BELOW, {5, UNKNOWN}};
        int[][] into = {{5, FINE}, NO_FIGURE, NO_FIGURE_BELOW};
        int[][] height = {{0, FINE}, {-101, OUTSIDE}, {101, OUTSIDE}};
        all("part into 5", 0, (d, v) -> d.part(v[0], 5, v[1]), from, height);
        all("part", 0, (d, v) -> d.part(v[0], v[1], v[2]), new int[][] {{0, FINE}, {2, STATE}, {3, STATE}, {4, FULL},
            NO_FIGURE, NO_FIGURE_BELOW}, into, height);
    }

    private static void refused(String call, Face face, int refusal) {
        one(call, 0, face, new int[0], refusal);
    }

    /** Refusals that come of two numbers together. */
    private static void joinedInPairs() {
        refused("join, sides not the same", (d, v) -> d.join(0, 1, 5, 0), NO);
        refused("join, sides not the same, side2", (d, v) -> d.join(0, 0, 5, 2), NO);
        refused("join, a not closed, sides not the same", (d, v) -> d.join(2, 1, 5, 1), STATE);
        refused("join, b not closed, sides not the same", (d, v) -> d.join(0, 1, 2, 1), STATE);
        refused("join, a not closed, no such side", (d, v) -> d.join(2, 2, 5, 1), UNKNOWN);
        refused("join, b not closed, no such side", (d, v) -> d.join(5, 0, 2, 2), UNKNOWN);
        refused("join, a full, b not closed", (d, v) -> d.join(4, 0, 2, 0), STATE);
        refused("join, a without points", (d, v) -> d.join(3, 0, 5, 0), UNKNOWN);
        refused("join, b without points", (d, v) -> d.join(5, 0, 3, 0), UNKNOWN);
        refused("join, more than 24, sides not the same", (d, v) -> d.join(4, 23, 5, 2), FULL);
        refused("join, more than 24, no such side2", (d, v) -> d.join(4, 23, 5, 3), UNKNOWN);
        refused("join, both one and not closed", (d, v) -> d.join(2, 0, 2, 1), UNKNOWN);
        refused("part, not closed, at no whole place", (d, v) -> d.part(2, 0, 0), STATE);
        refused("part, more than 24, at no whole place", (d, v) -> d.part(4, 0, 0), FULL);
        refused("part, at no whole place", (d, v) -> d.part(1, 0, 5), NO);
        refused("part, at no whole place, outside", (d, v) -> d.part(1, 0, 101), OUTSIDE);
        refused("part, into itself, outside", (d, v) -> d.part(1, 1, 101), UNKNOWN);
        refused("part, into itself, not closed", (d, v) -> d.part(2, 2, 0), UNKNOWN);
        refused("part, into itself, more than 24", (d, v) -> d.part(4, 4, 0), UNKNOWN);
    }

    private static void changes(String call, Face face, String... parts) {
        DrawnAreas d = state();
        face.answer(d, new int[0]);
        Set<String> got = changed(d);
        CHECK.holds(call + " changes " + String.join(", ", parts) + ", not " + got, got.equals(new TreeSet<>(Set.of(parts))));
    }

    private static void whatTakenCallsChange() {
        changes("point", (d, v) -> d.point(3, 1, 1), "figure 3");
        changes("move", (d, v) -> d.move(0, 2, 1, 1), "figure 0");
        changes("move to its place", (d, v) -> d.move(0, 0, -10, -10));
        changes("clear", (d, v) -> d.clear(4), "figure 4");
        changes("clear of none", (d, v) -> d.clear(3));
        changes("at", (d, v) -> d.at(0, 1, 1));
        changes("at -1", (d, v) -> d.at(0, -1, 1));
        changes("copy", (d, v) -> d.copy(4, 1, true), "figure 1");
        changes("copy onto itself", (d, v) -> d.copy(4, 4, false));
        changes("copy turned onto itself", (d, v) -> d.copy(4, 4, true), "figure 4");
        changes("twice", (d, v) -> d.twice(4));
        changes("simple", (d, v) -> d.simple(4));
        changes("winds", (d, v) -> d.winds(0, 1, 1));
        changes("rod", (d, v) -> d.rod(77), "rod");
        changes("told", (d, v) -> d.told(0, 3, 0));
        changes("can", (d, v) -> d.can(1));
        changes("rail", (d, v) -> d.rail(0, -50, 50));
        changes("shut", (d, v) -> d.shut(29, 1));
        changes("geared", (d, v) -> d.geared(0, 3, 0));
        changes("moment", (d, v) -> d.moment(0, 2, 1));
        changes("arm", (d, v) -> d.arm(5, 3, 18, -4), "arm");
        changes("arm as it is", (d, v) -> d.arm(4, 3, 17, -5));
        changes("ring", (d, v) -> d.ring(0, 0));
        changes("reaches", (d, v) -> d.reaches(0));
        changes("teeth", (d, v) -> d.teeth(8, 13), "teeth");
        changes("count", (d, v) -> d.count(0));
        changes("may", (d, v) -> d.may(9, 2, 3, 1, 0));
        changes("fits", (d, v) -> d.fits(0, 9, 2, 3));
        changes("join", (d, v) -> d.join(0, 0, 5, 0), "figure 0");
        changes("join the other way", (d, v) -> d.join(5, 0, 0, 0), "figure 5");
        changes("part", (d, v) -> d.part(0, 3, 0), "figure 3");
        changes("part over more", (d, v) -> d.part(0, 4, 0), "figure 4");
    }
}
