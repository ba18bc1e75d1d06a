/** Promises 1 to 9. */
public final class FiguresTest {
    private static final long LOST = DrawnAreas.LOST;
    private static final Check CHECK = new Check("FiguresTest");

    public static void main(String[] args) {
        newObject();
        point();
        move();
        clear();
        at();
        copy();
        twice();
        simple();
        winds();
        CHECK.end();
    }

    private static void newObject() {
        DrawnAreas d = new DrawnAreas();
        for (int f = 0; f < 6; f++) {
            CHECK.due("points of a new figure", d.at(f, -1, 0), 0);
        }
        Check.draw(d, 0, 0, 0, 10, 0, 10, 10, 0, 10);
        CHECK.dueFraction("may at first: U ROD by T is 9", d.may(1, 0, 0, 0, 0), d.may(1, 0, 0, 0, 1), 9, 1);
        CHECK.due("count at first", d.count(0), 11);
        CHECK.due("foot at 0, 0 at first", d.ring(0, 0), LOST - 5);
        d.move(0, 0, -1, -1);
        CHECK.due("A 100, B 0, ROD 150 at first", d.ring(0, 0), 100 * 100 + 150 * 150);
        CHECK.due("ROD at first", d.rod(1), 150);
        DrawnAreas foot = new DrawnAreas();
        Check.draw(foot, 0, 0, 0, 7, 9, -5, 8);
        CHECK.due("only 0, 0 is on a side", foot.ring(0, 1), LOST - 5);
        DrawnAreas other = new DrawnAreas();
        CHECK.due("objects share nothing", other.at(0, -1, 0), 0);
        CHECK.due("objects share no rod", other.rod(2), 150);
    }

    private static void point() {
        DrawnAreas d = new DrawnAreas();
        CHECK.due("point(-1, 0, 0)", d.point(-1, 0, 0), -1);
        CHECK.due("point(6, 101, 0): UNKNOWN first", d.point(6, 101, 0), -1);
        CHECK.due("point x 101", d.point(5, 101, 0), -2);
        CHECK.due("point x -101", d.point(5, -101, 0), -2);
        CHECK.due("point y 101", d.point(5, 0, 101), -2);
        CHECK.due("point y -101", d.point(5, 0, -101), -2);
        CHECK.due("refused points leave none", d.at(5, -1, 0), 0);
        CHECK.due("point at the edge", d.point(5, 100, -100), 0);
        CHECK.due("point at the other edge", d.point(5, -100, 100), 1);
        CHECK.duePoints("edges", d, 5, 100, -100, -100, 100);
        for (int i = 2; i < 24; i++) {
            CHECK.due("point " + i, d.point(5, i, -i), i);
        }
        CHECK.due("point OUTSIDE before FULL", d.point(5, 0, 101), -2);
        CHECK.due("point FULL", d.point(5, 0, 0), -4);
        CHECK.due("24 points", d.at(5, -1, 0), 24);
        CHECK.due("the last stays", d.at(5, 23, 1), -23);
        CHECK.due("another figure has room", d.point(4, 0, 0), 0);
    }

    private static void move() {
        DrawnAreas d = new DrawnAreas();
        Check.draw(d, 1, 1, 2, 3, 4);
        CHECK.due("move figure 6", d.move(6, 0, 0, 0), -1);
        CHECK.due("move figure -1", d.move(-1, 0, 0, 0), -1);
        CHECK.due("move point 2 of 2: UNKNOWN first", d.move(1, 2, 101, 0), -1);
        CHECK.due("move point -1", d.move(1, -1, 0, 0), -1);
        CHECK.due("move x 101", d.move(1, 0, 101, 0), -2);
        CHECK.due("move x -101", d.move(1, 0, -101, 0), -2);
        CHECK.due("move y 101", d.move(1, 0, 0, 101), -2);
        CHECK.due("move y -101", d.move(1, 0, 0, -101), -2);
        CHECK.duePoints("refused moves", d, 1, 1, 2, 3, 4);
        CHECK.due("move", d.move(1, 1, -100, 100), 1);
        CHECK.duePoints("moved", d, 1, 1, 2, -100, 100);
    }

    private static void clear() {
        DrawnAreas d = new DrawnAreas();
        Check.draw(d, 2, 1, 2, 3, 4, 5, 6);
        CHECK.due("clear figure 6", d.clear(6), -1);
        CHECK.due("clear figure -1", d.clear(-1), -1);
        CHECK.due("clear an empty figure", d.clear(0), 0);
        CHECK.due("clear", d.clear(2), 3);
        CHECK.due("cleared", d.at(2, -1, 0), 0);
        CHECK.due("no point 0 any more", d.at(2, 0, 0), -1001);
        CHECK.due("numbers from 0 again", d.point(2, 7, 8), 0);
        CHECK.duePoints("anew", d, 2, 7, 8);
    }

    private static void at() {
        DrawnAreas d = new DrawnAreas();
        Check.draw(d, 3, -1, -2);
        CHECK.due("at x", d.at(3, 0, 0), -1);
        CHECK.due("at y", d.at(3, 0, 1), -2);
        CHECK.due("at figure 6", d.at(6, -1, 0), -1001);
        CHECK.due("at figure -1", d.at(-1, 0, 0), -1001);
        CHECK.due("at point 1 of 1: UNKNOWN first", d.at(3, 1, 7), -1001);
        CHECK.due("at point -2", d.at(3, -2, 0), -1001);
        CHECK.due("at what 2", d.at(3, 0, 2), -1002);
        CHECK.due("at what -1", d.at(3, 0, -1), -1002);
        CHECK.due("how many, whatever what is", d.at(3, -1, 9), 1);
    }

    private static void copy() {
        DrawnAreas d = new DrawnAreas();
        Check.draw(d, 0, 1, 10, 2, 20, 3, 30, 4, 40, 5, 50);
        Check.draw(d, 1, 9, 9);
        CHECK.due("copy from 6", d.copy(6, 1, false), -1);
        CHECK.due("copy into -1", d.copy(0, -1, false), -1);
        CHECK.duePoints("refused", d, 1, 9, 9);
        CHECK.due("copy", d.copy(0, 1, false), 5);
        CHECK.duePoints("copied", d, 1, 1, 10, 2, 20, 3, 30, 4, 40, 5, 50);
        CHECK.due("copy turned", d.copy(0, 2, true), 5);
        CHECK.duePoints("turned", d, 2, 1, 10, 5, 50, 4, 40, 3, 30, 2, 20);
        CHECK.duePoints("the first stays", d, 0, 1, 10, 2, 20, 3, 30, 4, 40, 5, 50);
        d.move(1, 0, 77, 77);
        CHECK.due("copies are apart", d.at(0, 0, 0), 1);
        d.point(0, 6, 60);
        CHECK.due("copy turned onto itself", d.copy(0, 0, true), 6);
        CHECK.duePoints("turned in its place", d, 0, 1, 10, 6, 60, 5, 50, 4, 40, 3, 30, 2, 20);
        CHECK.due("copy onto itself", d.copy(0, 0, false), 6);
        CHECK.duePoints("as it was", d, 0, 1, 10, 6, 60, 5, 50, 4, 40, 3, 30, 2, 20);
        CHECK.due("copy of nothing", d.copy(5, 0, true), 0);
        CHECK.due("nothing is left", d.at(0, -1, 0), 0);
        Check.draw(d, 0, 1, 2, 3, 4);
        CHECK.due("copy two turned", d.copy(0, 0, true), 2);
        CHECK.duePoints("two turned", d, 0, 1, 2, 3, 4);
    }

    private static void twice() {
        DrawnAreas d = new DrawnAreas();
        Check.draw(d, 0, 0, 0, 3, 0);
        CHECK.due("twice(6)", d.twice(6), LOST - 1);
        CHECK.due("twice(-1)", d.twice(-1), LOST - 1);
        CHECK.due("twice of two points", d.twice(0), LOST - 3);
        d.point(0, 0, 5);
        CHECK.due("twice to the left", d.twice(0), 15);
        d.copy(0, 1, true);
        CHECK.due("twice to the right", d.twice(1), -15);
        Check.draw(d, 2, -100, -100, 100, -100, 100, 100, -100, 100);
        CHECK.due("twice of the greatest square", d.twice(2), 80000);
        Check.draw(d, 3, 0, 0, 10, 10, 10, 0, 0, 10);
        CHECK.due("twice of a bow", d.twice(3), 0);
    }

    private static void simple() {
        DrawnAreas d = new DrawnAreas();
        CHECK.due("simple(6)", d.simple(6), -1);
        CHECK.due("simple(-1)", d.simple(-1), -1);
        simpleIs(d, 0, "nothing");
        simpleIs(d, 0, "two points", 0, 0, 5, 0);
        simpleIs(d, 1, "a triangle", 0, 0, 5, 0, 0, 5);
        simpleIs(d, 0, "a flat triangle", 0, 0, 5, 0, 10, 0);
        simpleIs(d, 0, "a flat triangle that goes back first", 0, 0, 10, 0, 5, 0);
        simpleIs(d, 1, "a point in the midst of a straight line", 0, 0, 5, 0, 10, 0, 5, 5);
        simpleIs(d, 0, "a side without length", 0, 0, 5, 0, 5, 0, 0, 5);
        simpleIs(d, 0, "the last side without length", 0, 0, 5, 0, 0, 5, 0, 0);
        simpleIs(d, 0, "a bow", 0, 0, 10, 10, 10, 0, 0, 10);
        simpleIs(d, 1, "a bay", 0, 0, 10, 0, 10, 10, 5, 1, 0, 10);
        simpleIs(d, 0, "a bay that touches with its point", 0, 0, 10, 0, 10, 10, 5, 0, 0, 10);
        simpleIs(d, 0, "a bay that comes through", 0, 0, 10, 0, 10, 10, 5, -1, 0, 10);
        simpleIs(d, 0, "a point twice", 0, 0, 10, 0, 5, 5, 10, 10, 0, 10, 5, 5);
        simpleIs(d, 0, "a spike out and back", 0, 0, 10, 0, 20, 0, 10, 0, 0, 10);
        simpleIs(d, 0, "a spike back on the side before", 0, 0, 10, 0, 4, 0, 0, 10);
        simpleIs(d, 0, "a spike straight up", 3, 1, 3, 20, 3, 7, -9, 4);
        simpleIs(d, 0, "a slanting spike", -7, 3, 11, 12, 5, 9, -9, 30);
        simpleIs(d, 0, "a slanting spike down", 9, -30, 3, 6, 5, -6, -20, -7);
        simpleIs(d, 1, "a slanting straight line", -7, 3, 5, 9, 11, 12, -9, 30);
        simpleIs(d, 1, "a straight line up", 3, 1, 3, 7, 3, 20, -9, 4);
        simpleIs(d, 0, "a narrow bow", 0, 0, 2, 1, 1, 1, 1, 0);
        simpleIs(d, 0, "a narrow bow from its other end", 2, 1, 0, 0, 1, 0, 1, 1);
        simpleIs(d, 0, "the last side back on the first", 0, 0, 10, 0, 10, 10, 5, 0);
        simpleIs(d, 0, "sides on one line that overlap", 0, 0, 10, 0, 10, 5, 15, 5, 15, 0, 5, 0, 5, -5, 0, -5);
        simpleIs(d, 1, "sides on one line apart", 0, 0, 4, 0, 4, 3, 6, 3, 6, 0, 10, 0, 10, 9, 0, 9);
        simpleIs(d, 0, "first and last but one meet", 0, 0, 10, 0, 10, 10, 5, 10, 5, -5, -5, -5);
    }

    private static void simpleIs(DrawnAreas d, int want, String what, int... xy) {
        Check.draw(d, 0, xy);
        CHECK.due("simple: " + what, d.simple(0), want);
        d.copy(0, 1, true);
        CHECK.due("simple turned: " + what, d.simple(1), want);
    }

    private static void winds() {
        DrawnAreas d = new DrawnAreas();
        CHECK.due("winds(6, 301, 0): UNKNOWN first", d.winds(6, 301, 0), -1001);
        CHECK.due("winds(-1, 0, 0)", d.winds(-1, 0, 0), -1001);
        CHECK.due("winds x 301: OUTSIDE before STATE", d.winds(0, 301, 0), -1002);
        CHECK.due("winds x -301", d.winds(0, -301, 0), -1002);
        CHECK.due("winds y 301", d.winds(0, 0, 301), -1002);
        CHECK.due("winds y -301", d.winds(0, 0, -301), -1002);
        Check.draw(d, 0, 0, 0, 10, 0);
        CHECK.due("winds of two points", d.winds(0, 5, 0), -1003);
        Check.draw(d, 0, 0, 0, 10, 0, 10, 10, 0, 10, 0, 0, 10, 0, 10, 10, 0, 10);
        CHECK.due("winds twice round", d.winds(0, 5, 5), 2);
        CHECK.due("winds at the edge of places", d.winds(0, 300, -300), 0);
        CHECK.due("winds at the other edge", d.winds(0, -300, 300), 0);
        CHECK.due("winds on a side", d.winds(0, 10, 3), -1006);
        CHECK.due("winds on a corner", d.winds(0, 0, 0), -1006);
        CHECK.due("winds in a side's line, outside", d.winds(0, 11, 10), 0);
        CHECK.due("winds left in a side's line", d.winds(0, -1, 10), 0);
        d.copy(0, 1, true);
        CHECK.due("winds to the right", d.winds(1, 5, 5), -2);
        Check.draw(d, 2, -10, 0, 0, -10, 10, 0, 0, 10);
        CHECK.due("winds at the height of corners", d.winds(2, 0, 0), 1);
        CHECK.due("winds left at the height of corners", d.winds(2, -11, 0), 0);
        CHECK.due("winds at the height of the top", d.winds(2, -5, 10), 0);
        CHECK.due("winds at the height of the lowest", d.winds(2, -5, -10), 0);
        Check.draw(d, 2, 0, 0, 2, 1, -5, 1, -5, -1);
        CHECK.due("winds close beside a side", d.winds(2, -1, 0), 1);
        CHECK.due("winds on the first side alone", d.winds(2, 2, 1), -1006);
        Check.draw(d, 2, -4, 2, 4, -2, 9, 9);
        CHECK.due("winds in the midst of the first side", d.winds(2, 2, -1), -1006);
        Check.draw(d, 3, 0, 0, 10, 10, 10, 0, 0, 10);
        CHECK.due("winds in the bow's right half", d.winds(3, 9, 5), -1);
        CHECK.due("winds in the bow's left half", d.winds(3, 1, 5), 1);
        CHECK.due("winds on the bow's knot", d.winds(3, 5, 5), -1006);
    }
}
