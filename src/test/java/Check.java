/** Counts the answers that are not as due; a test ends with end(). */
final class Check {
    private final String name;
    private String sentence = "";
    private int calls = 0;
    private int wrong = 0;

    Check(String name) {
        this.name = name;
    }

    /** The document's words that the answers from here on are about. */
    void says(String words) {
        sentence = " [" + words + "]";
    }

    void due(String call, long got, long want) {
        calls++;
        if (got != want) {
            wrong++;
            System.out.println(name + sentence + ": " + call + " answered " + got + ", due is " + want);
        }
    }

    void holds(String what, boolean held) {
        due(what, held ? 1 : 0, 1);
    }

    /** Upper and lower number of a fraction, each told by its own call. */
    void dueFraction(String call, long gotUpper, long gotLower, long upper, long lower) {
        due(call + " upper", gotUpper, upper);
        due(call + " lower", gotLower, lower);
    }

    /** All POINTS of a figure, x and y in turn. */
    void duePoints(String when, DrawnAreas d, int figure, int... xy) {
        due(when + ": how many points", d.at(figure, -1, 0), xy.length / 2);
        for (int k = 0; k < xy.length; k++) {
            due(when + ": at(" + figure + ", " + k / 2 + ", " + k % 2 + ")", d.at(figure, k / 2, k % 2), xy[k]);
        }
    }

    static void draw(DrawnAreas d, int figure, int... xy) {
        d.clear(figure);
        for (int k = 0; k + 1 < xy.length; k += 2) {
            d.point(figure, xy[k], xy[k + 1]);
        }
    }

    void end() {
        System.out.println(name + ": " + calls + " answers looked at, " + wrong + " not as due");
        if (wrong != 0) {
            System.exit(1);
        }
    }
}
