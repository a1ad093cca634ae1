/** Promises 1 to 7: a new object, put, drop, move, undo, fill, span. */
public final class SpansTest {
    public static void main(String[] args) {
        newObject();
        put();
        drop();
        move();
        undo();
        undoForgets();
        undoOfFill();
        fill();
        fillWhenFull();
        fillForms();
        span();
        Due.finish("SpansTest");
    }

    private static void newObject() {
        SpanBook x = new SpanBook();
        for (int what = 0; what <= 8; what++) {
            Due.is("1: count(" + what + ")", x.count(what), 0);
        }
        for (int s = 0; s < 4; s++) {
            Due.is("1: lose(" + s + ")", x.lose(s), Due.NULL);
        }
        Due.is("1: undo()", x.undo(), Due.NOT);
        for (int key = 0; key < 48; key++) {
            Due.is("1: rank(" + key + ")", x.rank(key), Due.NOT);
        }
    }

    private static void put() {
        SpanBook x = new SpanBook();
        Due.is("2: first", x.put(0, -5, 5), 1);
        Due.is("2: last key, whole range", x.put(47, Due.LOW, Due.HIGH), 2);
        Due.is("2: one point", x.put(9, 999999999, Due.HIGH), 3);
        Due.is("2: the same stretch under another key", x.put(1, -5, 5), 4);
        Due.is("2: key there", x.put(0, 1, 2), Due.NOT);
        Due.is("2: key -1", x.put(-1, 1, 2), Due.BAD);
        Due.is("2: key 48", x.put(48, 1, 2), Due.BAD);
        Due.is("2: key least", x.put(Due.LEAST, 1, 2), Due.BAD);
        Due.is("2: empty", x.put(3, 2, 2), Due.BAD);
        Due.is("2: turned", x.put(3, 3, 2), Due.BAD);
        Due.is("2: from below", x.put(3, Due.LOW - 1, 2), Due.BAD);
        Due.is("2: to above", x.put(3, 2, Due.HIGH + 1), Due.BAD);
        Due.is("2: from least", x.put(3, Due.LEAST, 2), Due.BAD);
        Due.is("2: to greatest", x.put(3, 2, Integer.MAX_VALUE), Due.BAD);
        Due.is("2: BAD ahead of NOT", x.put(0, 2, 2), Due.BAD);
        Due.is("2: refusals change nothing", x.count(0), 4);
        Due.is("2: nor are they DONE", x.count(1), 4);
        Due.is("2: nor is the SPAN another", x.span(0, 0), -5);
    }

    private static void drop() {
        SpanBook x = Due.book(3, 0, 10, 4, 5, 6, 5, 7, 8);
        Due.is("3: drop", x.drop(4), 2);
        Due.is("3: again", x.drop(4), Due.NOT);
        Due.is("3: never there", x.drop(0), Due.NOT);
        Due.is("3: key -1", x.drop(-1), Due.BAD);
        Due.is("3: key 48", x.drop(48), Due.BAD);
        Due.is("3: it is gone", x.span(4, 0), Due.LEAST);
        Due.is("3: ranks close", x.ranked(1), 5);
        Due.is("3: DONE", x.count(1), 4);
        Due.is("3: put again", x.put(4, 1, 2), 3);
        Due.is("3: drop", x.drop(3), 2);
        Due.is("3: drop", x.drop(4), 1);
        Due.is("3: to none", x.drop(5), 0);
        Due.is("3: root", x.root(), Due.NONE);
    }

    private static void move() {
        SpanBook x = Due.book(3, 0, 10, 4, 5, 6);
        Due.is("4: along", x.move(3, 6), 1);
        Due.is("4: from", x.span(3, 0), 6);
        Due.is("4: to", x.span(3, 1), 16);
        Due.is("4: rank", x.rank(3), 1);
        Due.is("4: back", x.move(3, -16), 1);
        Due.is("4: from", x.span(3, 0), -10);
        Due.is("4: rank", x.rank(3), 0);
        Due.is("4: by 0", x.move(3, 0), 1);
        Due.is("4: by 0 is DONE too", x.count(1), 5);
        Due.is("4: key 48", x.move(48, 1), Due.BAD);
        Due.is("4: key -1", x.move(-1, 1), Due.BAD);
        Due.is("4: none", x.move(5, Integer.MAX_VALUE), Due.NOT);
        Due.is("4: to the end", x.move(3, Due.HIGH), 1);
        Due.is("4: to the end", x.span(3, 1), Due.HIGH);
        Due.is("4: beyond it", x.move(3, 1), Due.FAR);
        Due.is("4: far beyond", x.move(3, Integer.MAX_VALUE), Due.FAR);
        Due.is("4: far ahead", x.move(3, Due.LEAST), Due.FAR);
        Due.is("4: to the beginning", x.move(3, -1999999990), 1);
        Due.is("4: to the beginning", x.span(3, 0), Due.LOW);
        Due.is("4: ahead of it", x.move(3, -1), Due.FAR);
        Due.is("4: FAR changes nothing", x.span(3, 0), Due.LOW);
        Due.is("4: nor is it DONE", x.count(1), 7);
    }

    private static void undo() {
        SpanBook x = Due.book(3, 0, 10);
        long one = x.digest();
        Due.is("5: put", x.put(4, 5, 6), 2);
        long two = x.digest();
        Due.is("5: move", x.move(3, 100), 1);
        long three = x.digest();
        Due.is("5: drop", x.drop(3), 1);
        Due.is("5: of drop", x.undo(), 3);
        Due.is("5: digest", x.digest(), three);
        Due.is("5: of move", x.undo(), 2);
        Due.is("5: digest", x.digest(), two);
        Due.is("5: of put", x.undo(), 1);
        Due.is("5: digest", x.digest(), one);
        Due.is("5: what is undone is no more DONE", x.undo(), 0);
        Due.is("5: none left", x.undo(), Due.NOT);
        Due.is("5: no SPANS", x.count(0), 0);
        Due.is("5: another way after undo", x.put(3, 7, 8), 1);
        Due.is("5: undone", x.undo(), 0);
        Due.is("5: no SPANS", x.count(0), 0);
    }

    private static void undoForgets() {
        SpanBook x = Due.book(3, 0, 10);
        for (int i = 1; i <= 63; i++) {
            Due.is("5: move", x.move(3, 1), 1);
            Due.is("5: DONE", x.count(1), i + 1);
        }
        Due.is("5: one more", x.move(3, 1), 1);
        Due.is("5: 64 at most", x.count(1), 64);
        Due.is("5: and more", x.move(3, 1), 1);
        Due.is("5: 64 at most", x.count(1), 64);
        for (int i = 63; i >= 0; i--) {
            Due.is("5: undo", x.undo(), i);
        }
        Due.is("5: the first were forgotten", x.undo(), Due.NOT);
        Due.is("5: so the SPAN stays where the second put it", x.span(3, 0), 1);
    }

    private static void undoOfFill() {
        SpanBook x = new SpanBook();
        Due.row(x, 0, 2, 1, 2, 3, 4, 5, 6);
        Due.is("5: fill", x.fill(0), 3);
        Due.is("5: each by itself", x.undo(), 2);
        Due.is("5: two are left", x.count(0), 2);
        Due.is("5: the last is gone", x.rank(2), Due.NOT);
        Due.is("5: the row stays", x.get(0, 2, 5), 6);
    }

    private static void fill() {
        SpanBook x = Due.book(1, 100, 101);
        Due.is("6: sheet 4", x.fill(4), Due.BAD);
        Due.is("6: sheet -1", x.fill(-1), Due.BAD);
        Due.is("6: BAD is no FINDING", x.count(8), 0);
        Due.is("6: LOST", x.fill(3), Due.NULL);
        Due.is("6: FINDING", x.count(8), 1);
        Due.row(x, 0, 2, 5, 9, 7, 8, -3, -2, 4);
        Due.is("6: three are whole", x.fill(0), 3);
        Due.is("6: least key", x.span(0, 1), 9);
        Due.is("6: not one that is there", x.span(1, 0), 100);
        Due.is("6: the next", x.span(2, 0), 7);
        Due.is("6: the next", x.span(3, 1), -2);
        Due.is("6: each is DONE", x.count(1), 4);
        Due.row(x, 1, 2, 1, 2, 4, 4, 5, 6);
        Due.is("6: as long as each may be", x.fill(1), 1);
        Due.is("6: not beyond", x.count(0), 5);
        Due.row(x, 1, 2, 1, Due.HIGH + 1, 5, 6);
        Due.is("6: out of THE RANGE", x.fill(1), 0);
        Due.row(x, 1, 2, Due.LOW - 1, 0);
        Due.is("6: out of THE RANGE", x.fill(1), 0);
        Due.row(x, 1, 2, Due.LOW, Due.HIGH);
        Due.is("6: all of it", x.fill(1), 1);
        Due.row(x, 1, 2);
        Due.is("6: no items", x.fill(1), 0);
        Due.row(x, 1, 2, 5);
        Due.is("6: one item", x.fill(1), 0);
    }

    private static void fillWhenFull() {
        SpanBook x = new SpanBook();
        int[] items = new int[60];
        for (int i = 0; i < 60; i++) {
            items[i] = i;
        }
        Due.row(x, 2, 0, items);
        Due.is("6: thirty", x.fill(2), 30);
        Due.is("6: as long as there is a key", x.fill(2), 18);
        Due.is("6: no key left", x.fill(2), 0);
        Due.is("6: count", x.count(0), 48);
        Due.is("6: DONE", x.count(1), 48);
        Due.is("6: last key", x.span(47, 0), 34);
        Due.is("6: drop", x.drop(20), 47);
        Due.is("6: the one key", x.fill(2), 1);
        Due.is("6: from the first item", x.span(20, 1), 1);
    }

    private static void fillForms() {
        SpanBook x = new SpanBook();
        Due.row(x, 0, 0, -128, 127);
        Due.row(x, 1, 1, -32768, 32767);
        Due.row(x, 2, 0, 127, 128);
        Due.is("6: bytes", x.fill(0), 1);
        Due.is("6: bytes", x.span(0, 0), -128);
        Due.is("6: shorts", x.fill(1), 1);
        Due.is("6: shorts", x.span(1, 0), -32768);
        Due.is("6: a byte that is cut", x.fill(2), 0);
    }

    private static void span() {
        SpanBook x = Due.book(3, -7, 10, 47, Due.LOW, Due.HIGH);
        Due.is("7: FROM", x.span(3, 0), -7);
        Due.is("7: TO", x.span(3, 1), 10);
        Due.is("7: FROM", x.span(47, 0), Due.LOW);
        Due.is("7: TO", x.span(47, 1), Due.HIGH);
        Due.is("7: none", x.span(4, 0), Due.LEAST);
        Due.is("7: key -1", x.span(-1, 0), Due.LEAST);
        Due.is("7: key 48", x.span(48, 0), Due.LEAST);
        Due.is("7: what -1", x.span(3, -1), Due.LEAST);
        Due.is("7: what 2", x.span(3, 2), Due.LEAST);
    }
}
