/** Boundary cases of promises 28 to 33: sheet, lose, lay, get, copy, write. */
final class EdgesOfSheets {
    private EdgesOfSheets() {
    }

    static void all() {
        Section sheet = Section.of("Promise 28: sheet");
        sheet.says("A SHEET is a new row of a FORM with n items: n.", EdgesOfSheets::newRow);
        sheet.says("BAD: SHEET, FORM, above 60;", EdgesOfSheets::sheetBad);
        sheet.says("SIZE.", EdgesOfSheets::sheetSize);
        Section lose = Section.of("Promise 29: lose");
        lose.says("It is LOST: how many items it had.", EdgesOfSheets::lost);
        lose.says("BAD;", () -> Refused.badBeyond(0, 0, 3, "lose", 0));
        lose.says("NULL.", EdgesOfSheets::loseNull);
        Section lay = Section.of("Promise 30: lay");
        lay.says("Item i, treated as of a FORM, becomes v", EdgesOfSheets::laid);
        lay.says("(the lowest bits that it has): 1.", EdgesOfSheets::lowestBits);
        lay.says("BAD;", EdgesOfSheets::layBad);
        lay.says("NULL;", () -> layNull("lay", Due.NULL));
        lay.says("CAST;", EdgesOfSheets::layCast);
        lay.says("INDEX.", EdgesOfSheets::layIndex);
        Section get = Section.of("Promise 31: get");
        get.says("Item i of it.", EdgesOfSheets::itemsGot);
        get.says("BAD: the least int;", EdgesOfSheets::getBad);
        get.says("so are NULL, CAST, INDEX (count() 8 tells).", EdgesOfSheets::getFindings);
        Section copy = Section.of("Promise 32: copy");
        copy.says("n items of SHEET s, from i on, come to SHEET t", EdgesOfSheets::copied);
        copy.says("(perhaps s, as they were), from j on: 1.", EdgesOfSheets::copiedWithin);
        copy.says("BAD: the SHEETS;", EdgesOfSheets::copyBad);
        copy.says("NULL: s, t;", EdgesOfSheets::copyNull);
        copy.says("STORE;", EdgesOfSheets::copyStore);
        copy.says("INDEX: below 0, not so many.", EdgesOfSheets::copyIndex);
        Section write = Section.of("Promise 33: write");
        write.says("KEYS of SPANS that MEET a stretch, in ORDER, come to a SHEET from item 0 on,", EdgesOfSheets::written);
        write.says("as many as there are items, and SPANS: how many.", EdgesOfSheets::asManyAsThereAre);
        write.says("BAD;", EdgesOfSheets::writeBad);
        write.says("NULL.", EdgesOfSheets::writeNull);
    }

    // ---- promises 28, 29

    private static void newRow() {
        for (int s : new int[] {0, 3}) {
            for (int form = 0; form <= 2; form++) {
                SpanBook x = new SpanBook();
                for (int n : new int[] {0, 1, 59, 60}) {
                    Due.is(Call.text("sheet", s, form, n), x.sheet(s, form, n), n);
                    Due.is("the last item", x.lay(s, form, n - 1, 7), n == 0 ? Due.INDEX : 1);
                    Due.is("behind the last item", x.lay(s, form, n, 7), Due.INDEX);
                }
                Due.is("like another, but new", x.sheet(s, form, 60), 60);
                for (int i = 0; i < 60; i++) {
                    Due.is("item " + i, x.get(s, form, i), 0);
                }
                Due.is("not the others", x.lose(3 - s), Due.NULL);
            }
        }
        SpanBook y = new SpanBook();
        Due.row(y, 0, 2, 70000, 70001);
        Due.is("another FORM", y.sheet(0, 0, 2), 2);
        Due.isRow("no more what it was", y, 0, 0, 0, 0);
    }

    private static void sheetBad() {
        Refused.badBeyond(0, 0, 3, "sheet", 0, 0, 5);
        Refused.badBeyond(1, 0, 2, "sheet", 0, 0, 5);
        Refused.bad("sheet", 0, 0, 61);
        Refused.bad("sheet", 3, 2, 61);
        Refused.bad("sheet", 0, 0, Due.GREATEST);
        // BAD goes ahead of SIZE
        Refused.badBeyond(0, 0, 3, "sheet", 0, 0, -1);
        Refused.badBeyond(1, 0, 2, "sheet", 0, 0, -1);
    }

    private static void sheetSize() {
        for (Kind kind : Kind.values()) {
            for (int s = 0; s <= 3; s++) {
                Refused.found(kind, Due.SIZE, "sheet", s, 0, -1);
                Refused.found(kind, Due.SIZE, "sheet", s, 2, Due.LEAST);
            }
        }
    }

    private static void lost() {
        for (int s : new int[] {0, 3}) {
            for (int n : new int[] {0, 1, 60}) {
                SpanBook x = new SpanBook();
                x.sheet(s, 1, n);
                Due.is("lose with " + n + " items", x.lose(s), n);
                Due.is("LOST", x.lose(s), Due.NULL);
                Due.is("LOST", x.get(s, 1, 0), Due.LEAST);
                Due.is("NULL", x.count(8), 1);
                Due.is("made again", x.sheet(s, 1, 1), 1);
                Due.is("no more LOST", x.lose(s), 1);
            }
        }
    }

    private static void loseNull() {
        for (int s = 0; s <= 3; s++) {
            Refused.found(Kind.NEW, Due.NULL, "lose", s);
        }
        Refused.found(Kind.SOME, Due.NULL, "lose", 3);
        Refused.found(Kind.FULL, Due.NULL, "lose", 2);
    }

    // ---- promises 30, 31

    private static void laid() {
        for (int form = 0; form <= 2; form++) {
            SpanBook x = new SpanBook();
            x.sheet(3, form, 60);
            Due.is("the first item", x.lay(3, form, 0, 5), 1);
            Due.is("the last item", x.lay(3, form, 59, -6), 1);
            Due.is("the first item", x.get(3, form, 0), 5);
            Due.is("beside it", x.get(3, form, 1), 0);
            Due.is("beside the last", x.get(3, form, 58), 0);
            Due.is("the last item", x.get(3, form, 59), -6);
        }
    }

    private static void lowestBits() {
        // v, as a byte, as a short, as an int
        int[][] rows = {
            {0, 0, 0, 0}, {127, 127, 127, 127}, {128, -128, 128, 128}, {-128, -128, -128, -128}, {-129, 127, -129, -129},
            {255, -1, 255, 255}, {256, 0, 256, 256}, {-1, -1, -1, -1}, {32767, -1, 32767, 32767},
            {32768, 0, -32768, 32768}, {-32768, 0, -32768, -32768}, {-32769, -1, 32767, -32769}, {65535, -1, -1, 65535},
            {65536, 0, 0, 65536}, {Due.GREATEST, -1, -1, Due.GREATEST}, {Due.LEAST + 1, 1, 1, Due.LEAST + 1}};
        for (int form = 0; form <= 2; form++) {
            SpanBook x = new SpanBook();
            x.sheet(0, form, 3);
            for (int[] row : rows) {
                Due.is("lay " + row[0], x.lay(0, form, 1, row[0]), 1);
                Due.is("form " + form + " of " + row[0], x.get(0, form, 1), row[form + 1]);
                Due.is("beside it", x.get(0, form, 0) + x.get(0, form, 2), 0);
            }
            x.lay(0, form, 1, Due.LEAST);
            Due.is("form " + form + " of the least int", x.get(0, form, 1), form == 2 ? Due.LEAST : 0);
            Due.is("the least int as an item is no FINDING", x.count(8), 0);
        }
    }

    private static void layBad() {
        Refused.badBeyond(0, 0, 3, "lay", 0, 0, 0, 9);
        Refused.badBeyond(1, 0, 2, "lay", 0, 0, 0, 9);
        // BAD goes ahead of INDEX
        Refused.badBeyond(1, 0, 2, "lay", 0, 0, -1, 9);
    }

    /** NULL of lay(), and of get(), where the least int stands for it; it goes ahead of CAST and INDEX. */
    private static void layNull(String name, int answer) {
        for (int form = 0; form <= 2; form++) {
            for (int i : new int[] {0, -1, 60}) {
                int[] numbers = name.equals("lay") ? new int[] {3, form, i, 9} : new int[] {3, form, i};
                if (answer == Due.LEAST) {
                    Refused.foundAsLeast(Kind.NEW, 1, name, numbers);
                    Refused.foundAsLeast(Kind.SOME, 1, name, numbers);
                } else {
                    Refused.found(Kind.NEW, answer, name, numbers);
                    Refused.found(Kind.SOME, answer, name, numbers);
                }
            }
        }
    }

    private static void layCast() {
        for (int s = 0; s <= 2; s++) {
            for (int form = 0; form <= 2; form++) {
                for (int i : new int[] {0, -1, 60}) {
                    if (form != s) {
                        Refused.found(Kind.SOME, Due.CAST, "lay", s, form, i, 9);
                    }
                }
            }
        }
        // a SHEET without items has a FORM too
        Refused.found(Kind.FULL, Due.CAST, "lay", 0, 1, 0, 9);
    }

    private static void layIndex() {
        int[] lengths = {4, 3, 5};
        for (int s = 0; s <= 2; s++) {
            Due.is("the last item", Kind.SOME.make().lay(s, s, lengths[s] - 1, 9), 1);
            for (int i : new int[] {-1, lengths[s], Due.LEAST, Due.GREATEST}) {
                Refused.found(Kind.SOME, Due.INDEX, "lay", s, s, i, 9);
            }
        }
        Refused.found(Kind.FULL, Due.INDEX, "lay", 0, 0, 0, 9);
        Refused.found(Kind.FULL, Due.INDEX, "lay", 1, 1, 60, 9);
        Due.is("the last of 60", Kind.FULL.make().lay(1, 1, 59, 9), 1);
    }

    private static void itemsGot() {
        SpanBook x = Kind.FULL.make();
        Due.is("the first of 60", x.get(1, 1, 0), 1);
        Due.is("the last of 60", x.get(1, 1, 59), -1);
        Due.is("between", x.get(1, 1, 58), 0);
        Due.is("no FINDING more", x.count(8), 4);
    }

    private static void getBad() {
        Refused.badAsLeastBeyond(0, 0, 3, "get", 0, 0, 0);
        Refused.badAsLeastBeyond(1, 0, 2, "get", 0, 0, 0);
        Refused.badAsLeastBeyond(1, 0, 2, "get", 0, 0, -1);
    }

    private static void getFindings() {
        layNull("get", Due.LEAST);
        for (int i : new int[] {0, -1, 60}) {
            Refused.foundAsLeast(Kind.SOME, 3, "get", 0, 1, i);
            Refused.foundAsLeast(Kind.SOME, 3, "get", 2, 0, i);
        }
        Refused.foundAsLeast(Kind.FULL, 3, "get", 0, 1, 0);
        for (int i : new int[] {-1, 4, Due.LEAST, Due.GREATEST}) {
            Refused.foundAsLeast(Kind.SOME, 2, "get", 0, 0, i);
        }
        Refused.foundAsLeast(Kind.FULL, 2, "get", 0, 0, 0);
        Refused.foundAsLeast(Kind.FULL, 2, "get", 1, 1, 60);
    }

    // ---- promise 32

    private static int[] counting(int n) {
        int[] items = new int[n];
        for (int i = 0; i < n; i++) {
            items[i] = i + 1;
        }
        return items;
    }

    private static void copied() {
        for (int form = 0; form <= 2; form++) {
            SpanBook x = new SpanBook();
            Due.row(x, 0, form, counting(60));
            x.sheet(3, form, 60);
            Due.is("the last item to the first", x.copy(0, 59, 3, 0, 1), 1);
            Due.isRow("the last item to the first", x, 3, form, 60, 0);
            Due.is("the first item to the last", x.copy(0, 0, 3, 59, 1), 1);
            Due.is("the first item to the last", x.get(3, form, 59), 1);
            Due.is("beside it", x.get(3, form, 58), 0);
            Due.is("all 60", x.copy(0, 0, 3, 0, 60), 1);
            Due.isRow("all 60", x, 3, form, counting(60));
            Due.isRow("what they come from stays", x, 0, form, counting(60));
        }
        SpanBook y = new SpanBook();
        Due.row(y, 0, 2, Due.LEAST, Due.GREATEST);
        Due.row(y, 1, 2);
        Due.row(y, 2, 2, 5, 6, 7);
        Due.is("none, behind the last", y.copy(0, 2, 2, 3, 0), 1);
        Due.is("none, of no items", y.copy(1, 0, 1, 0, 0), 1);
        Due.is("none, to no items", y.copy(0, 0, 1, 0, 0), 1);
        Due.isRow("none", y, 2, 2, 5, 6, 7);
        Due.is("two to the last two", y.copy(0, 0, 2, 1, 2), 1);
        Due.isRow("two to the last two", y, 2, 2, 5, Due.LEAST, Due.GREATEST);
        Due.is("no FINDING", y.count(8), 0);
    }

    private static void copiedWithin() {
        for (int form = 0; form <= 2; form++) {
            SpanBook x = new SpanBook();
            Due.row(x, 0, form, 1, 2, 3, 4, 5);
            Due.is("one to the right", x.copy(0, 0, 0, 1, 4), 1);
            Due.isRow("one to the right", x, 0, form, 1, 1, 2, 3, 4);
            Due.row(x, 0, form, 1, 2, 3, 4, 5);
            Due.is("one to the left", x.copy(0, 1, 0, 0, 4), 1);
            Due.isRow("one to the left", x, 0, form, 2, 3, 4, 5, 5);
            Due.is("to where they are", x.copy(0, 0, 0, 0, 5), 1);
            Due.isRow("to where they are", x, 0, form, 2, 3, 4, 5, 5);
        }
    }

    private static void copyBad() {
        Refused.badBeyond(0, 0, 3, "copy", 0, 0, 0, 0, 1);
        Refused.badBeyond(2, 0, 3, "copy", 0, 0, 0, 0, 1);
        Refused.bad("copy", 4, 0, -1, 0, 1);
        // BAD goes ahead of NULL, STORE and INDEX
        Refused.is(Kind.SOME, Due.BAD, "copy", 3, 0, 4, 0, 1);
        Refused.is(Kind.SOME, Due.BAD, "copy", 4, 0, 3, 0, 1);
        Refused.is(Kind.SOME, Due.BAD, "copy", 0, -1, 4, -1, -1);
    }

    private static void copyNull() {
        Refused.found(Kind.SOME, Due.NULL, "copy", 3, 0, 0, 0, 1);
        Refused.found(Kind.SOME, Due.NULL, "copy", 0, 0, 3, 0, 1);
        Refused.found(Kind.SOME, Due.NULL, "copy", 3, 0, 3, 0, 0);
        Refused.found(Kind.NEW, Due.NULL, "copy", 0, 0, 3, 0, 0);
        // NULL goes ahead of STORE and INDEX
        for (int s = 0; s <= 2; s++) {
            Refused.found(Kind.SOME, Due.NULL, "copy", s, -1, 3, 60, -1);
            Refused.found(Kind.SOME, Due.NULL, "copy", 3, 60, s, -1, 61);
        }
    }

    private static void copyStore() {
        for (int s = 0; s <= 2; s++) {
            for (int t = 0; t <= 2; t++) {
                if (s != t) {
                    Refused.found(Kind.SOME, Due.STORE, "copy", s, 0, t, 0, 1);
                    Refused.found(Kind.SOME, Due.STORE, "copy", s, 0, t, 0, 0);
                    // STORE goes ahead of INDEX
                    Refused.found(Kind.SOME, Due.STORE, "copy", s, -1, t, 60, 61);
                }
            }
        }
        // SHEETS without items have a FORM too
        Refused.found(Kind.FULL, Due.STORE, "copy", 0, 0, 1, 0, 0);
    }

    private static void copyIndex() {
        // SHEET 2 has 5 items: i, j, n
        int[][] refused = {
            {-1, 0, 1}, {0, -1, 1}, {0, 0, -1}, {-1, 0, 0}, {0, -1, 0}, {5, 0, 1}, {0, 5, 1}, {6, 0, 0}, {0, 6, 0},
            {0, 0, 6}, {1, 0, 5}, {0, 1, 5}, {4, 0, 2}, {0, 4, 2}, {5, 5, -1},
            {Due.LEAST, 0, 1}, {0, Due.LEAST, 1}, {0, 0, Due.LEAST}, {Due.GREATEST, 0, 1}, {0, Due.GREATEST, 1},
            {0, 0, Due.GREATEST}, {1, 0, Due.GREATEST}, {0, 1, Due.GREATEST}, {Due.GREATEST, 0, Due.GREATEST},
            {0, Due.GREATEST, Due.GREATEST}, {Due.LEAST, Due.LEAST, Due.LEAST}, {5, 5, Due.LEAST}, {Due.GREATEST, 0, 0}};
        for (int[] row : refused) {
            Refused.found(Kind.SOME, Due.INDEX, "copy", 2, row[0], 2, row[1], row[2]);
        }
        int[][] allowed = {{0, 0, 5}, {5, 5, 0}, {5, 0, 0}, {0, 5, 0}, {4, 0, 1}, {0, 4, 1}, {1, 0, 4}, {0, 1, 4}};
        for (int[] row : allowed) {
            Due.is(Call.text("within, copy", row), Kind.SOME.make().copy(2, row[0], 2, row[1], row[2]), 1);
        }
        // one SHEET has so many, the other one not
        SpanBook x = new SpanBook();
        Due.row(x, 0, 2, 1, 2, 3);
        Due.row(x, 1, 2, 1, 2);
        Due.is("three from two", x.copy(1, 0, 0, 0, 3), Due.INDEX);
        Due.is("three to two", x.copy(0, 0, 1, 0, 3), Due.INDEX);
        Due.is("two to two", x.copy(0, 1, 1, 0, 2), 1);
        Due.isRow("two to two", x, 1, 2, 2, 3);
    }

    // ---- promise 33

    private static void written() {
        SpanBook x = Due.all(47, -1, 100, 0);
        for (int form = 0; form <= 2; form++) {
            x.sheet(form, form, 60);
            x.lay(form, form, 48, 77);
            Due.is("all 48, form " + form, x.write(Due.LOW, Due.HIGH, form), 48);
            Due.is("the first in ORDER", x.get(form, form, 0), 47);
            Due.is("the last in ORDER", x.get(form, form, 47), 0);
            Due.is("behind them", x.get(form, form, 48), 77);
        }
        SpanBook ends = Kind.SOME.make();
        Due.is("the first point of THE RANGE", ends.write(Due.LOW, Due.LOW + 1, 0), 1);
        Due.is("the first point of THE RANGE", ends.get(0, 0, 0), 0);
        Due.is("the last point of THE RANGE", ends.write(Due.HIGH - 1, Due.HIGH, 0), 1);
        Due.isRow("the others stay", ends, 0, 0, 47, -2, 3, 127);
        Due.is("b is FROM, a is TO", ends.write(15, 101, 0), 0);
        Due.isRow("none", ends, 0, 0, 47, -2, 3, 127);
    }

    private static void asManyAsThereAre() {
        for (int items : new int[] {0, 1, 47, 48, 49, 60}) {
            SpanBook x = Due.all(0, 1, 100, 0);
            x.sheet(3, 0, items);
            Due.is("48 SPANS, " + items + " items", x.write(0, 100, 3), Math.min(items, 48));
            Due.is("the last that came", x.get(3, 0, Math.min(items, 48) - 1), items == 0 ? Due.LEAST : Math.min(items, 48) - 1);
        }
        SpanBook none = new SpanBook();
        none.sheet(0, 2, 60);
        Due.is("no SPANS", none.write(Due.LOW, Due.HIGH, 0), 0);
        none.sheet(0, 2, 0);
        Due.is("no SPANS, no items", none.write(Due.LOW, Due.HIGH, 0), 0);
        Due.is("no FINDING", none.count(8), 0);
        SpanBook y = Due.book(5, 0, 1);
        y.sheet(0, 2, 0);
        Due.is("no items", y.write(0, 1, 0), 0);
        Due.is("it is not DONE", y.count(1), 1);
    }

    private static void writeBad() {
        for (int s = 0; s <= 3; s++) {
            Refused.badStretches(Due.BAD, "write", 0, 0, s);
        }
        Refused.badBeyond(2, 0, 3, "write", 0, 1, 0);
    }

    private static void writeNull() {
        for (int s = 0; s <= 3; s++) {
            Refused.found(Kind.NEW, Due.NULL, "write", 0, 1, s);
        }
        Refused.found(Kind.SOME, Due.NULL, "write", Due.LOW, Due.HIGH, 3);
        Refused.found(Kind.FULL, Due.NULL, "write", Due.LOW, Due.HIGH, 2);
    }
}
