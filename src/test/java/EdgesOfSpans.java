/** Boundary cases of promises 1 to 7: a new object, put, drop, move, undo, fill, span. */
final class EdgesOfSpans {
    private EdgesOfSpans() {
    }

    static void all() {
        Section made = Section.of("Promise 1: A new object");
        made.says("No SPANS, nothing DONE;", EdgesOfSpans::noSpans);
        made.says("all SHEETS are LOST.", EdgesOfSpans::allLost);
        Section put = Section.of("Promise 2: put");
        put.says("A SPAN more: how many.", EdgesOfSpans::oneMore);
        put.says("BAD;", EdgesOfSpans::putBad);
        put.says("NOT: there is one with that KEY.", EdgesOfSpans::putNot);
        Section drop = Section.of("Promise 3: drop");
        drop.says("It is taken out: how many are left.", EdgesOfSpans::oneLess);
        drop.says("BAD;", () -> Refused.badBeyond(0, 0, 47, "drop", 0));
        drop.says("NOT: there is none.", EdgesOfSpans::dropNot);
        Section move = Section.of("Promise 4: move");
        move.says("FROM and TO are more by a number (any): 1.", EdgesOfSpans::moved);
        move.says("BAD;", EdgesOfSpans::moveBad);
        move.says("NOT: there is none;", EdgesOfSpans::moveNot);
        move.says("FAR: it would leave THE RANGE.", EdgesOfSpans::moveFar);
        Section undo = Section.of("Promise 5: undo");
        undo.says("The last that is DONE is undone: how many are left of DONE.", EdgesOfSpans::undone);
        undo.says("NOT: there is none.", EdgesOfSpans::undoNot);
        Section fill = Section.of("Promise 6: fill");
        fill.says("SPANS from a SHEET: of its items, two for each, FROM and TO, as many as are whole,", EdgesOfSpans::fillWhole);
        fill.says("as long as each may be,", EdgesOfSpans::fillAsMayBe);
        fill.says("with the least KEY that is not there", EdgesOfSpans::fillLeastKey);
        fill.says("(and as long as there is one): how many.", EdgesOfSpans::fillTillFull);
        fill.says("BAD;", () -> Refused.badBeyond(0, 0, 3, "fill", 0));
        fill.says("NULL.", EdgesOfSpans::fillNull);
        Section span = Section.of("Promise 7: span");
        span.says("FROM (what = 0), TO (1).", EdgesOfSpans::fromAndTo);
        span.says("The least int: BAD, or there is none.", EdgesOfSpans::spanLeast);
    }

    // ---- promise 1

    private static void noSpans() {
        SpanBook x = new SpanBook();
        for (int what = 0; what <= 8; what++) {
            Due.is("count(" + what + ")", x.count(what), 0);
        }
        for (int key = 0; key <= 47; key++) {
            Due.is("span(" + key + ", 0)", x.span(key, 0), Due.LEAST);
            Due.is("ranked(" + key + ")", x.ranked(key), Due.NONE);
        }
        Due.is("undo()", x.undo(), Due.NOT);
        SpanBook other = Kind.FULL.make();
        Due.is("another object's SPANS", x.count(0), 0);
        Due.is("another object's SPANS", new SpanBook().count(0), 0);
        Due.is("its own", other.count(0), 48);
    }

    private static void allLost() {
        SpanBook other = Kind.SOME.make();
        for (int s = 0; s <= 3; s++) {
            SpanBook x = new SpanBook();
            Due.is("lose(" + s + ")", x.lose(s), Due.NULL);
            Due.is("fill(" + s + ")", x.fill(s), Due.NULL);
            Due.is("write(.., " + s + ")", x.write(0, 1, s), Due.NULL);
        }
        Due.is("another object's", other.lose(0), 4);
    }

    // ---- promises 2 to 4

    private static void oneMore() {
        SpanBook x = new SpanBook();
        for (int key = 47; key >= 0; key--) {
            Due.is("put(" + key + ", ..)", x.put(key, -key, key + 1), 48 - key);
        }
        Due.is("the first", x.span(47, 0), -47);
        Due.is("the last", x.span(0, 1), 1);
        Due.is("how many", x.count(0), 48);
    }

    private static void putBad() {
        Refused.badBeyond(0, 0, 47, "put", 0, 1, 2);
        Refused.badBeyond(1, Due.LOW, Due.HIGH - 1, "put", 9, 0, Due.HIGH);
        Refused.badBeyond(2, Due.LOW + 1, Due.HIGH, "put", 9, Due.LOW, 0);
        Refused.bad("put", 9, 7, 7);
        Refused.bad("put", 9, 8, 7);
        Refused.bad("put", 48, 8, 7);
    }

    private static void putNot() {
        for (int key : new int[] {0, 5, 47}) {
            Refused.is(Kind.SOME, Due.NOT, "put", key, 300, 310);
        }
        Refused.is(Kind.SOME, Due.NOT, "put", 5, 0, 10);
        for (int key = 0; key <= 47; key++) {
            Refused.is(Kind.FULL, Due.NOT, "put", key, 0, 1);
        }
        SpanBook x = Kind.FULL.make();
        x.drop(31);
        Due.is("the only KEY that is not there", x.put(31, 0, 1), 48);
        Due.is("there again", x.put(31, 0, 1), Due.NOT);
    }

    private static void oneLess() {
        SpanBook x = Due.all(0, 1, 100, 0);
        int left = 48;
        // the first, the last, one between, and so on, till none is left
        for (int i = 0; i < 24; i++) {
            left--;
            int key = i % 2 == 0 ? i / 2 : 47 - i / 2;
            Due.is("drop(" + key + ")", x.drop(key), left);
            Due.is("rank(" + key + ")", x.rank(key), Due.NOT);
        }
        Due.is("the first in ORDER", x.ranked(0), 12);
        Due.is("the last in ORDER", x.ranked(23), 35);
        Due.is("none behind it", x.ranked(24), Due.NONE);
        for (int key = 35; key >= 12; key--) {
            left--;
            Due.is("drop(" + key + ")", x.drop(key), left);
        }
        Due.is("none left", x.count(0), 0);
    }

    private static void dropNot() {
        Refused.notThere(Due.NOT, "drop");
        SpanBook x = Kind.FULL.make();
        Due.is("the last KEY", x.drop(47), 47);
        Due.is("no more there", x.drop(47), Due.NOT);
    }

    private static void moved() {
        SpanBook x = Due.book(3, Due.LOW, Due.LOW + 1, 4, Due.LOW, Due.HIGH);
        int[][] rows = {{0, Due.LOW}, {1, Due.LOW + 1}, {-1, Due.LOW}, {1999999999, Due.HIGH - 1}, {-1999999999, Due.LOW}};
        for (int[] row : rows) {
            Due.is("move(3, " + row[0] + ")", x.move(3, row[0]), 1);
            Due.is("FROM", x.span(3, 0), row[1]);
            Due.is("TO", x.span(3, 1), row[1] + 1);
        }
        Due.is("all of THE RANGE, by 0", x.move(4, 0), 1);
        Due.is("each is DONE", x.count(1), 8);
        Due.is("no SPAN more", x.count(0), 2);
    }

    private static void moveBad() {
        Refused.badBeyond(0, 0, 47, "move", 0, 0);
        Refused.bad("move", 48, Due.GREATEST);
        Refused.bad("move", -1, Due.LEAST);
    }

    private static void moveNot() {
        for (int by : new int[] {0, 1, Due.LEAST, Due.GREATEST}) {
            Refused.notThere(Due.NOT, "move", by);
        }
    }

    private static void moveFar() {
        // 0 stands at the beginning of THE RANGE, 47 at its end; either may go to the other end, no farther
        for (int by : new int[] {-1, 2000000000, Due.LEAST, Due.GREATEST}) {
            Refused.is(Kind.SOME, Due.FAR, "move", 0, by);
        }
        for (int by : new int[] {1, -2000000000, Due.LEAST, Due.GREATEST}) {
            Refused.is(Kind.SOME, Due.FAR, "move", 47, by);
        }
        // 5 goes from 0 to 10
        for (int by : new int[] {999999991, -1000000001, Due.HIGH, Due.LEAST, Due.GREATEST}) {
            Refused.is(Kind.SOME, Due.FAR, "move", 5, by);
        }
        Due.is("just to the end", Kind.SOME.make().move(5, 999999990), 1);
        Due.is("just to the beginning", Kind.SOME.make().move(5, Due.LOW), 1);
        SpanBook all = Due.book(3, Due.LOW, Due.HIGH);
        Due.is("all of THE RANGE by 1", all.move(3, 1), Due.FAR);
        Due.is("all of THE RANGE by -1", all.move(3, -1), Due.FAR);
        Due.is("FAR is not DONE", all.count(1), 1);
    }

    // ---- promise 5

    private static void undone() {
        SpanBook x = Due.book(5, 0, 10);
        x.drop(5);
        x.put(5, 70, 80);
        x.move(5, 0);
        x.move(5, 1);
        int[][] due = {{4, 70}, {3, 70}, {2, Due.LEAST}, {1, 0}, {0, Due.LEAST}};
        for (int[] row : due) {
            Due.is("undo", x.undo(), row[0]);
            Due.is("FROM", x.span(5, 0), row[1]);
        }
        SpanBook full = Kind.FULL.make();
        for (int left = 63; left >= 0; left--) {
            Due.is("of 64 and more", full.undo(), left);
        }
        Due.is("the first four were forgotten", full.count(0), 4);
        Due.is("they stay", full.span(3, 0), -23);
        Due.is("the fifth does not", full.span(4, 0), Due.LEAST);
        SpanBook filled = new SpanBook();
        Due.row(filled, 0, 2, 1, 2, 3, 4);
        filled.fill(0);
        Due.is("the last of fill()", filled.undo(), 1);
        Due.is("the first of fill() stays", filled.span(0, 0), 1);
        Due.is("the SHEET stays", filled.get(0, 2, 3), 4);
    }

    private static void undoNot() {
        Refused.is(Kind.NEW, Due.NOT, "undo");
        SpanBook x = Due.book(5, 0, 10);
        x.undo();
        Due.is("all is undone", x.undo(), Due.NOT);
        Due.is("what is undone can't be done again so", x.count(0), 0);
        SpanBook full = Kind.FULL.make();
        for (int i = 0; i < 64; i++) {
            full.undo();
        }
        long before = full.digest();
        Due.is("only what is forgotten is left", full.undo(), Due.NOT);
        Due.is("nothing changes", full.digest(), before);
    }

    // ---- promise 6

    private static void fillWhole() {
        int[][] due = {{0, 0}, {1, 0}, {2, 1}, {3, 1}, {4, 2}, {59, 29}, {60, 30}};
        for (int[] row : due) {
            for (int form = 0; form <= 2; form++) {
                SpanBook x = new SpanBook();
                int[] items = new int[row[0]];
                for (int i = 0; i < items.length; i++) {
                    items[i] = i - 30;
                }
                Due.row(x, 3, form, items);
                Due.is("fill with " + row[0] + " items", x.fill(3), row[1]);
                Due.is("how many", x.count(0), row[1]);
                Due.is("FROM of the last", x.span(row[1] - 1, 0), row[1] == 0 ? Due.LEAST : 2 * row[1] - 32);
                Due.is("TO of the last", x.span(row[1] - 1, 1), row[1] == 0 ? Due.LEAST : 2 * row[1] - 31);
            }
        }
    }

    private static void fillAsMayBe() {
        int[][] none = {{5, 5}, {6, 5}, {Due.LOW - 1, 5}, {5, Due.HIGH + 1}, {Due.LEAST, Due.GREATEST}, {0, 0}};
        for (int[] pair : none) {
            SpanBook first = Due.book(9, 0, 10);
            Due.row(first, 0, 2, pair[0], pair[1], 1, 2);
            Due.is(Call.text("first", pair), first.fill(0), 0);
            Due.is("nothing is DONE", first.count(1), 1);
            Due.is("no SPAN more", first.count(0), 1);
            SpanBook second = Due.book(9, 0, 10);
            Due.row(second, 0, 2, Due.LOW, Due.HIGH, pair[0], pair[1], 1, 2);
            Due.is(Call.text("second", pair), second.fill(0), 1);
            Due.is("one is DONE", second.count(1), 2);
            Due.is("the first stays", second.span(0, 1), Due.HIGH);
            Due.is("the third does not come", second.span(1, 0), Due.LEAST);
            Due.is("no FINDING", second.count(8), 0);
        }
        // a byte and a short are below 0 behind their greatest
        SpanBook x = new SpanBook();
        Due.row(x, 0, 0, 127, 128);
        Due.row(x, 1, 1, 32767, 32768);
        Due.is("127 to -128", x.fill(0), 0);
        Due.is("32767 to -32768", x.fill(1), 0);
    }

    private static void fillLeastKey() {
        SpanBook x = Due.book(0, 0, 1, 2, 0, 1, 3, 0, 1);
        Due.row(x, 0, 2, 10, 11, 12, 13, 14, 15);
        Due.is("fill", x.fill(0), 3);
        Due.is("the least", x.span(1, 0), 10);
        Due.is("the next", x.span(4, 0), 12);
        Due.is("the next", x.span(5, 0), 14);
        x.drop(0);
        Due.is("fill", x.fill(0), 3);
        Due.is("0 again", x.span(0, 0), 10);
        Due.is("then 6", x.span(6, 0), 12);
    }

    private static void fillTillFull() {
        SpanBook x = Due.all(0, 0, 1, 0);
        Due.row(x, 0, 2, 10, 11, 12, 13, 14, 15);
        Due.is("none is not there", x.fill(0), 0);
        Due.is("nothing is DONE", x.count(1), 48);
        x.drop(47);
        Due.is("only 47 is not there", x.fill(0), 1);
        Due.is("it has the first", x.span(47, 0), 10);
        x.drop(0);
        x.drop(46);
        Due.is("two are not there", x.fill(0), 2);
        Due.is("the least has the first", x.span(0, 0), 10);
        Due.is("the other the second", x.span(46, 0), 12);
        Due.is("all 48", x.count(0), 48);
    }

    private static void fillNull() {
        for (int s = 0; s <= 3; s++) {
            Refused.found(Kind.NEW, Due.NULL, "fill", s);
        }
        Refused.found(Kind.SOME, Due.NULL, "fill", 3);
        Refused.found(Kind.FULL, Due.NULL, "fill", 2);
    }

    // ---- promise 7

    private static void fromAndTo() {
        SpanBook x = Due.book(0, Due.LOW, Due.LOW + 1, 47, Due.HIGH - 1, Due.HIGH);
        Due.is("FROM of the least KEY", x.span(0, 0), Due.LOW);
        Due.is("TO of the least KEY", x.span(0, 1), Due.LOW + 1);
        Due.is("FROM of the greatest KEY", x.span(47, 0), Due.HIGH - 1);
        Due.is("TO of the greatest KEY", x.span(47, 1), Due.HIGH);
    }

    private static void spanLeast() {
        for (int what = 0; what <= 1; what++) {
            Refused.badAsLeastBeyond(0, 0, 47, "span", 0, what);
            Refused.notThere(Due.LEAST, "span", what);
        }
        Refused.badAsLeastBeyond(1, 0, 1, "span", 0, 0);
    }
}
