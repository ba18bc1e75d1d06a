/** Promises 24 and 25. */
public final class JoinedTest {
    private static final Check CHECK = new Check("JoinedTest");

    public static void main(String[] args) {
        joinRefused();
        joined();
        joinFull();
        partRefused();
        parted();
        partFull();
        CHECK.end();
    }

    private static void square(DrawnAreas d, int figure, int x, int y) {
        Check.draw(d, figure, x, y, x + 10, y, x + 10, y + 10, x, y + 10);
    }

    private static void joinRefused() {
        DrawnAreas d = new DrawnAreas();
        square(d, 0, 0, 0);
        square(d, 1, 10, 0);
        CHECK.due("join figure 6", d.join(6, 0, 1, 0), -1);
        CHECK.due("join figure -1", d.join(-1, 0, 1, 0), -1);
        CHECK.due("join with figure 6", d.join(0, 0, 6, 0), -1);
        CHECK.due("join with figure -1", d.join(0, 0, -1, 0), -1);
        CHECK.due("join with itself", d.join(0, 0, 0, 2), -1);
        CHECK.due("join side 4", d.join(0, 4, 1, 0), -1);
        CHECK.due("join side -1", d.join(0, -1, 1, 0), -1);
        CHECK.due("join side2 4", d.join(0, 0, 1, 4), -1);
        CHECK.due("join side2 -1", d.join(0, 0, 1, -1), -1);
        CHECK.due("join sides apart", d.join(0, 0, 1, 0), -5);
        CHECK.due("join, only the beginning is the same", d.join(0, 1, 1, 2), -5);
        Check.draw(d, 2, 0, 10, 10, 10, 10, 20);
        CHECK.due("join, one end of the sides is the same", d.join(0, 1, 2, 1), -5);
        Check.draw(d, 3, 0, 0, 10, 0, 5, -5);
        CHECK.due("join, the same way round", d.join(0, 0, 3, 0), -5);
        Check.draw(d, 4, 10, 0, 0, 0);
        CHECK.due("join, b not closed: STATE before NO", d.join(0, 1, 4, 0), -3);
        CHECK.due("join, a not closed", d.join(4, 0, 0, 0), -3);
        CHECK.due("join, not closed, no such side: UNKNOWN first", d.join(4, 2, 0, 0), -1);
        CHECK.duePoints("refused", d, 0, 0, 0, 10, 0, 10, 10, 0, 10);
        CHECK.duePoints("refused", d, 1, 10, 0, 20, 0, 20, 10, 10, 10);
    }

    private static void joined() {
        DrawnAreas d = new DrawnAreas();
        square(d, 0, 0, 0);
        square(d, 1, 10, 0);
        CHECK.due("join in the midst", d.join(0, 1, 1, 3), 6);
        CHECK.duePoints("joined", d, 0, 0, 0, 10, 0, 20, 0, 20, 10, 10, 10, 0, 10);
        CHECK.duePoints("the second stays", d, 1, 10, 0, 20, 0, 20, 10, 10, 10);
        CHECK.due("areas are added", d.twice(0), 400);
        square(d, 0, 0, 0);
        square(d, 1, 0, -10);
        CHECK.due("join at the first side", d.join(0, 0, 1, 2), 6);
        CHECK.duePoints("joined", d, 0, 0, 0, 0, -10, 10, -10, 10, 0, 10, 10, 0, 10);
        square(d, 0, 0, 0);
        square(d, 1, -10, 0);
        CHECK.due("join at the last side", d.join(0, 3, 1, 1), 6);
        CHECK.duePoints("joined", d, 0, 0, 0, 10, 0, 10, 10, 0, 10, -10, 10, -10, 0);
        Check.draw(d, 0, 0, 0, 10, 0, 0, 10);
        Check.draw(d, 1, 10, 0, 0, 0, 5, -5);
        CHECK.due("join triangles", d.join(0, 0, 1, 0), 4);
        CHECK.duePoints("joined", d, 0, 0, 0, 5, -5, 10, 0, 0, 10);
        Check.draw(d, 0, 5, 5, 5, 5, 9, 5);
        Check.draw(d, 1, 1, 1, 5, 5, 5, 5);
        CHECK.due("join sides without length", d.join(0, 0, 1, 1), 4);
        CHECK.duePoints("joined", d, 0, 5, 5, 1, 1, 5, 5, 9, 5);
    }

    private static void ladder(DrawnAreas d, int figure, int points) {
        Check.draw(d, figure, 0, 0, 10, 0);
        for (int i = 2; i < points; i++) {
            d.point(figure, 10 - i, 20 + i);
        }
    }

    private static void joinFull() {
        DrawnAreas d = new DrawnAreas();
        ladder(d, 0, 22);
        Check.draw(d, 1, 10, 0, 0, 0, 1, -5, 9, -5);
        CHECK.due("join up to 24", d.join(0, 0, 1, 0), 24);
        CHECK.due("its second", d.at(0, 1, 1), -5);
        CHECK.due("its last", d.at(0, 23, 0), 10 - 21);
        ladder(d, 0, 23);
        CHECK.due("join to 25: FULL before NO", d.join(0, 1, 1, 0), -4);
        CHECK.due("join to 25: FULL", d.join(0, 0, 1, 0), -4);
        CHECK.due("refused: as many as before", d.at(0, -1, 0), 23);
        CHECK.due("refused: as before", d.at(0, 1, 0), 10);
        Check.draw(d, 2, 10, 0, 0, 0, 5, -5);
        CHECK.due("a triangle more", d.join(0, 0, 2, 0), 24);
        CHECK.due("another is too much", d.join(0, 0, 2, 0), -4);
    }

    private static void partRefused() {
        DrawnAreas d = new DrawnAreas();
        Check.draw(d, 1, 7, 7);
        CHECK.due("part figure 6, h 101: UNKNOWN first", d.part(6, 1, 101), -1);
        CHECK.due("part figure -1", d.part(-1, 1, 0), -1);
        CHECK.due("part into 6", d.part(0, 6, 0), -1);
        CHECK.due("part into -1", d.part(0, -1, 0), -1);
        CHECK.due("part into itself", d.part(1, 1, 0), -1);
        CHECK.due("part h 101: OUTSIDE before STATE", d.part(0, 1, 101), -2);
        CHECK.due("part h -101", d.part(0, 1, -101), -2);
        Check.draw(d, 0, 0, 0, 10, 10);
        CHECK.due("part, not closed", d.part(0, 1, 5), -3);
        Check.draw(d, 0, 0, 0, 10, 0, 5, 10);
        CHECK.due("part at no whole place", d.part(0, 1, 5), -5);
        Check.draw(d, 0, 0, 0, 5, 10, 0, 10);
        CHECK.due("part, the first side alone at no whole place", d.part(0, 1, 3), -5);
        Check.draw(d, 0, 0, 0, 5, 10, -5, 10);
        CHECK.due("part, the last side alone at no whole place", d.part(0, 1, 3), -5);
        CHECK.duePoints("refused", d, 1, 7, 7);
    }

    private static void parted() {
        DrawnAreas d = new DrawnAreas();
        Check.draw(d, 0, 0, 0, 10, 0, 5, 10);
        Check.draw(d, 1, 1, 1, 2, 2, 3, 3, 4, 4, 5, 5);
        CHECK.due("part", d.part(0, 1, 4), 3);
        CHECK.duePoints("parted", d, 1, 8, 4, 5, 10, 2, 4);
        CHECK.duePoints("the first stays", d, 0, 0, 0, 10, 0, 5, 10);
        CHECK.due("part at the bottom", d.part(0, 1, 0), 3);
        CHECK.duePoints("all of it", d, 1, 0, 0, 10, 0, 5, 10);
        CHECK.due("part at the top", d.part(0, 1, 10), 1);
        CHECK.duePoints("its top", d, 1, 5, 10);
        CHECK.due("part below", d.part(0, 1, -100), 3);
        CHECK.due("part above", d.part(0, 1, 100), 0);
        CHECK.due("nothing", d.at(1, -1, 0), 0);
        Check.draw(d, 0, -6, 9, -9, -9, 9, -9, 6, 9, 0, -3);
        CHECK.due("part with a bay", d.part(0, 1, 3), 6);
        CHECK.duePoints("parted", d, 1, -6, 9, -7, 3, 7, 3, 6, 9, 3, 3, -3, 3);
        CHECK.due("part at the bay's point", d.part(0, 1, -3), 5);
        CHECK.duePoints("parted", d, 1, -6, 9, -8, -3, 8, -3, 6, 9, 0, -3);
    }

    private static void comb(DrawnAreas d, int lows, int highs, int step) {
        d.clear(0);
        for (int i = 0; i < lows; i++) {
            d.point(0, 2 * i * step, -1);
            d.point(0, 2 * i * step + step, 1);
        }
        for (int i = lows; i < highs; i++) {
            d.point(0, 2 * i * step, 1);
        }
    }

    private static void partFull() {
        DrawnAreas d = new DrawnAreas();
        // So many lows, each between highs: 2 crossings each.
        comb(d, 8, 8, 2);
        CHECK.due("part: 8 highs and 16 crossings", d.part(0, 1, 0), 24);
        comb(d, 8, 9, 2);
        CHECK.due("part: 9 highs and 16 crossings", d.part(0, 1, 0), -4);
        CHECK.due("refused: as before", d.at(1, -1, 0), 24);
        comb(d, 7, 11, 2);
        d.move(0, 15, 90, 0);
        CHECK.due("part: 10 highs, a point at h and 14 crossings", d.part(0, 1, 0), -4);
        comb(d, 7, 10, 2);
        d.move(0, 15, 90, 0);
        CHECK.due("part: 9 highs, a point at h and 14 crossings", d.part(0, 1, 0), 24);
        comb(d, 12, 12, 1);
        CHECK.due("part: crossings at no whole place, but too many: FULL first", d.part(0, 1, 0), -4);
        comb(d, 8, 8, 1);
        CHECK.due("part: not too many, at no whole place", d.part(0, 1, 0), -5);
    }
}
