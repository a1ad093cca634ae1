/** Boundary cases of "Terms": FINDINGS, the refusals and their order, the least int. */
final class EdgesOfRefusals {
    private EdgesOfRefusals() {
    }

    static void all() {
        Section terms = Section.of("Terms");
        terms.says("FINDINGS (answers -10 less the number;", EdgesOfRefusals::numbers);
        terms.says("they change nothing but count() 8):", EdgesOfRefusals::findingsChangeNothing);
        terms.says("1 NULL: the SHEET is LOST;", EdgesOfRefusals::lost);
        terms.says("2 INDEX: there is no such item;", EdgesOfRefusals::noSuchItem);
        terms.says("3 CAST: it has another FORM;", EdgesOfRefusals::anotherForm);
        terms.says("4 STORE: unlike FORMS;", EdgesOfRefusals::unlikeForms);
        terms.says("5 SIZE: below 0.", EdgesOfRefusals::belowZero);
        terms.says("Refusals, the first that fits, in the order told at each act: BAD -2 (a number not as told, no such thing), "
            + "NULL, NOT -3 (as told), FAR -4 (as told), other FINDINGS.", EdgesOfRefusals::order);
        terms.says("They change nothing (FINDINGS but count() 8).", EdgesOfRefusals::refusalsChangeNothing);
        terms.says("Where it is told so, the least int stands for BAD and for NONE.", EdgesOfRefusals::leastInt);
    }

    // ---- FINDINGS

    private static void numbers() {
        SpanBook x = Kind.SOME.make();
        Due.is("1 NULL", x.lose(3), -11);
        Due.is("2 INDEX", x.lay(0, 0, 4, 0), -12);
        Due.is("3 CAST", x.lay(0, 1, 0, 0), -13);
        Due.is("4 STORE", x.copy(0, 0, 1, 0, 1), -14);
        Due.is("5 SIZE", x.sheet(0, 0, -1), -15);
    }

    private static void findingsChangeNothing() {
        Refused.found(Kind.SOME, Due.NULL, "lose", 3);
        Refused.found(Kind.SOME, Due.INDEX, "lay", 0, 0, 4, 9);
        Refused.found(Kind.SOME, Due.CAST, "lay", 0, 1, 0, 9);
        Refused.found(Kind.SOME, Due.STORE, "copy", 0, 0, 1, 0, 1);
        Refused.found(Kind.FULL, Due.SIZE, "sheet", 1, 0, -1);
    }

    /** In a new book each SHEET, in another one of a SHEET that was a row before. */
    private static void lost() {
        for (int s = 0; s <= 3; s++) {
            isLost(Kind.NEW, s);
        }
        isLost(Kind.SOME, 3);
        isLost(Kind.FULL, 2);
    }

    private static void isLost(Kind kind, int s) {
        Refused.found(kind, Due.NULL, "fill", s);
        Refused.found(kind, Due.NULL, "lose", s);
        Refused.found(kind, Due.NULL, "lay", s, 2, 0, 9);
        Refused.foundAsLeast(kind, 1, "get", s, 2, 0);
        Refused.found(kind, Due.NULL, "copy", s, 0, s, 0, 0);
        Refused.found(kind, Due.NULL, "write", 0, 1, s);
    }

    private static void noSuchItem() {
        // SHEET 0 has 4 items
        SpanBook x = Kind.SOME.make();
        Due.is("the first item", x.lay(0, 0, 0, 5), 1);
        Due.is("the last item", x.lay(0, 0, 3, 5), 1);
        for (int i : new int[] {-1, 4, 60, Due.LEAST, Due.GREATEST}) {
            Refused.found(Kind.SOME, Due.INDEX, "lay", 0, 0, i, 9);
            Refused.foundAsLeast(Kind.SOME, 2, "get", 0, 0, i);
            Refused.found(Kind.SOME, Due.INDEX, "copy", 0, i, 0, 0, 1);
            Refused.found(Kind.SOME, Due.INDEX, "copy", 0, 0, 0, i, 1);
        }
        Refused.found(Kind.FULL, Due.INDEX, "lay", 0, 0, 0, 9);
        Refused.found(Kind.FULL, Due.INDEX, "lay", 1, 1, 60, 9);
    }

    private static void anotherForm() {
        // SHEETS 0, 1, 2 have FORMS 0, 1, 2
        SpanBook x = Kind.SOME.make();
        for (int s = 0; s <= 2; s++) {
            for (int form = 0; form <= 2; form++) {
                if (form == s) {
                    Due.is(Call.text("lay", s, form, 0, 5), x.lay(s, form, 0, 5), 1);
                } else {
                    Refused.found(Kind.SOME, Due.CAST, "lay", s, form, 0, 5);
                    Refused.foundAsLeast(Kind.SOME, 3, "get", s, form, 0);
                }
            }
        }
    }

    private static void unlikeForms() {
        SpanBook x = Kind.SOME.make();
        for (int s = 0; s <= 2; s++) {
            for (int t = 0; t <= 2; t++) {
                if (s == t) {
                    Due.is(Call.text("copy", s, 0, t, 1, 2), x.copy(s, 0, t, 1, 2), 1);
                } else {
                    Refused.found(Kind.SOME, Due.STORE, "copy", s, 0, t, 1, 2);
                    Refused.found(Kind.SOME, Due.STORE, "copy", s, 0, t, 0, 0);
                }
            }
        }
    }

    private static void belowZero() {
        SpanBook x = new SpanBook();
        Due.is("0", x.sheet(0, 0, 0), 0);
        for (int form = 0; form <= 2; form++) {
            for (Kind kind : Kind.values()) {
                Refused.found(kind, Due.SIZE, "sheet", 3, form, -1);
                Refused.found(kind, Due.SIZE, "sheet", 0, form, Due.LEAST);
            }
        }
    }

    // ---- refusals

    private static void order() {
        // BAD ahead of NOT and FAR: 5 is there, 9 is not
        Refused.is(Kind.SOME, Due.BAD, "put", 5, 3, 3);
        Refused.is(Kind.SOME, Due.BAD, "put", 5, Due.LOW - 1, 3);
        Refused.is(Kind.SOME, Due.BAD, "move", 48, Due.GREATEST);
        Refused.is(Kind.SOME, Due.BAD, "tree", 9, 6);
        Refused.is(Kind.SOME, Due.BAD, "tree", 9, -1);
        Refused.is(Kind.SOME, Due.BAD, "group", 9, 2);
        Refused.is(Kind.SOME, Due.BAD, "group", 9, -1);
        // NOT ahead of FAR
        Refused.is(Kind.SOME, Due.NOT, "move", 9, Due.GREATEST);
        Refused.is(Kind.SOME, Due.NOT, "move", 9, Due.LEAST);
        // BAD ahead of FINDINGS: SHEET 3 is LOST
        Refused.is(Kind.SOME, Due.BAD, "sheet", 4, 0, -1);
        Refused.is(Kind.SOME, Due.BAD, "sheet", 0, 3, -1);
        Refused.is(Kind.SOME, Due.BAD, "lay", 3, 3, -1, 0);
        Refused.is(Kind.SOME, Due.LEAST, "get", 3, 3, -1);
        Refused.is(Kind.SOME, Due.BAD, "copy", 3, -1, 4, 0, 1);
        Refused.is(Kind.SOME, Due.BAD, "copy", 4, -1, 3, 0, 1);
        Refused.is(Kind.SOME, Due.BAD, "write", 1, 1, 3);
        Refused.is(Kind.SOME, Due.BAD, "write", Due.LOW - 1, 1, 3);
        // NULL ahead of other FINDINGS, CAST and STORE ahead of INDEX
        for (int form = 0; form <= 2; form++) {
            Refused.found(Kind.SOME, Due.NULL, "lay", 3, form, 60, 0);
            Refused.foundAsLeast(Kind.SOME, 1, "get", 3, form, -1);
        }
        Refused.found(Kind.SOME, Due.NULL, "copy", 3, -1, 0, 99, -1);
        Refused.found(Kind.SOME, Due.NULL, "copy", 0, -1, 3, 99, -1);
        Refused.found(Kind.SOME, Due.CAST, "lay", 0, 2, 4, 0);
        Refused.found(Kind.SOME, Due.CAST, "lay", 0, 2, -1, 0);
        Refused.foundAsLeast(Kind.SOME, 3, "get", 0, 2, 4);
        Refused.foundAsLeast(Kind.SOME, 3, "get", 0, 2, -1);
        Refused.found(Kind.SOME, Due.STORE, "copy", 0, -1, 1, 99, -1);
        Refused.found(Kind.SOME, Due.STORE, "copy", 0, 5, 1, 0, 1);
    }

    private static void refusalsChangeNothing() {
        Refused.is(Kind.SOME, Due.NOT, "put", 5, 30, 40);
        Refused.is(Kind.SOME, Due.NOT, "drop", 9);
        Refused.is(Kind.SOME, Due.NOT, "move", 9, 1);
        Refused.is(Kind.SOME, Due.FAR, "move", 0, -1);
        Refused.is(Kind.SOME, Due.FAR, "move", 47, 1);
        Refused.is(Kind.NEW, Due.NOT, "undo");
        Refused.is(Kind.FULL, Due.NOT, "put", 47, 0, 1);
        Refused.is(Kind.FULL, Due.FAR, "move", 47, Due.GREATEST);
        Refused.is(Kind.FULL, Due.FAR, "move", 0, Due.LEAST);
        for (int value : new int[] {-1, 48, Due.LEAST, Due.GREATEST}) {
            Refused.bad("put", value, 0, 1);
            Refused.bad("drop", value);
            Refused.bad("move", value, 1);
        }
    }

    private static void leastInt() {
        SpanBook x = new SpanBook();
        Due.is("span, none", x.span(0, 0), -2147483648);
        Due.is("span, BAD", x.span(48, 0), -2147483648);
        Due.is("end, none", x.end(0), -2147483648);
        Due.is("end, BAD", x.end(48), -2147483648);
        Due.is("free, NONE", x.free(0, 5, 1, 0), -2147483648);
        Due.is("free, BAD", x.free(5, 5, 0, 0), -2147483648);
        Due.is("place, NONE", x.place(Due.HIGH, 1, 0), -2147483648);
        Due.is("place, BAD", x.place(0, 0, 0), -2147483648);
        Due.is("point, NONE", x.point(), -2147483648);
        Due.is("get, BAD", x.get(4, 0, 0), -2147483648);
        // numbers that are answers must not be held for refusals
        SpanBook y = Due.book(0, -2, -1, 1, -4, -3);
        Due.is("FROM -2 is no BAD", y.span(0, 0), -2);
        Due.is("TO -1 is no NONE", y.span(0, 1), -1);
        Due.is("END -1", y.end(0), -1);
        Due.is("a place at -1", y.place(-2, 1, 0), -1);
        Due.is("a FREE part from -3 on", y.free(-4, 0, 0, 0), -3);
        Due.is("DEEP at -4", y.point(), -4);
    }
}
