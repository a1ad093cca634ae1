import java.util.ArrayList;
import java.util.List;

/** Kinds of books to begin with; a like one can be made as often as wanted, to hold one against another. */
enum Kind {
    /** No SPANS, nothing DONE, all SHEETS LOST. */
    NEW,
    /** SPANS 0, 47, 5, 6, 7, at both ends of THE RANGE too; SHEETS of each FORM, 3 LOST again; the latest FINDING is SIZE. */
    SOME,
    /** All 48 SPANS; more than 64 of DONE; SHEETS with 0, 60 and 2 items, 2 never made; the latest FINDING is STORE. */
    FULL;

    SpanBook make() {
        return this == NEW ? new SpanBook() : this == SOME ? some() : full();
    }

    private static SpanBook some() {
        SpanBook x = Due.book(0, Due.LOW, Due.LOW + 1, 47, Due.HIGH - 1, Due.HIGH, 5, 0, 10, 6, 5, 15, 7, 100, 101, 8, 3, 4);
        x.move(7, 1);
        x.drop(8);
        Due.row(x, 0, 0, 1, -2, 3, 127);
        Due.row(x, 1, 1, 300, -300, 7);
        Due.row(x, 2, 2, 20, 30, 70000, 70001, 5);
        Due.row(x, 3, 2, 1, 2);
        x.lose(3);
        Due.is("sheet(3, 0, -1)", x.sheet(3, 0, -1), Due.SIZE);
        return x;
    }

    private static SpanBook full() {
        SpanBook x = new SpanBook();
        for (int key = 0; key < 48; key++) {
            int from = 10 * (key % 16) - 50 - key;
            x.put(key, from, from + 5 + 3 * key);
        }
        for (int key = 0; key < 20; key++) {
            x.move(key, 1);
        }
        x.sheet(0, 0, 0);
        x.sheet(1, 1, 60);
        x.lay(1, 1, 0, 1);
        x.lay(1, 1, 59, -1);
        Due.row(x, 3, 0, 4, 9);
        Due.is("copy(0, 0, 1, 0, 0)", x.copy(0, 0, 1, 0, 0), Due.STORE);
        return x;
    }

    /**
     * All that can be seen of a book, count() 8 first, as what comes behind may change it; last of all
     * what is DONE, undone step by step. With what make() calls it stays within 512 calls.
     */
    static List<Long> seen(SpanBook x) {
        List<Long> seen = new ArrayList<>();
        for (int what = 8; what >= 0; what--) {
            seen.add((long) x.count(what));
        }
        seen.add(x.digest());
        for (int s = 0; s < 4; s++) {
            for (int form = 0; form <= 2; form++) {
                addItems(seen, x, s, form);
            }
            seen.add((long) x.lose(s));
        }
        int left = x.undo();
        for (int i = 0; i < 64 && left >= 0; i++) {
            seen.add((long) left);
            seen.add(x.digest());
            left = x.undo();
        }
        return seen;
    }

    private static void addItems(List<Long> seen, SpanBook x, int s, int form) {
        int item = x.get(s, form, 0);
        for (int i = 1; i <= 60 && item != Due.LEAST; i++) {
            seen.add((long) item);
            item = x.get(s, form, i);
        }
    }
}
