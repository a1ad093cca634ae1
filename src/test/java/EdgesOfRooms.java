/** Boundary cases of promises 20 to 27: deep, point, room, keep, clashes, clash, alone, group. */
final class EdgesOfRooms {
    private EdgesOfRooms() {
    }

    static void all() {
        Section deep = Section.of("Promise 20: deep");
        deep.says("DEEP: how many (0 without SPANS).", EdgesOfRooms::deep);
        Section point = Section.of("Promise 21: point");
        point.says("DEEP: the point.", EdgesOfRooms::point);
        point.says("The least int: NONE (without SPANS).", EdgesOfRooms::noPoint);
        Section room = Section.of("Promise 22: room");
        room.says("ROOMS: how many in all (key = NONE),", EdgesOfRooms::howManyRooms);
        room.says("its own.", EdgesOfRooms::ownRoom);
        room.says("BAD;", () -> Refused.badBeyond(0, Due.NONE, 47, "room", 0));
        room.says("NOT: there is none.", () -> Refused.notThere(Due.NOT, "room"));
        Section keep = Section.of("Promise 23: keep");
        keep.says("KEEP: how many (i = NONE),", EdgesOfRooms::howManyKept);
        keep.says("the i-th as they are looked at (0 to 47; NONE).", EdgesOfRooms::whichKept);
        keep.says("BAD.", () -> Refused.badBeyond(0, Due.NONE, 47, "keep", 0));
        Section clashes = Section.of("Promise 24: clashes");
        clashes.says("CLASHES: how many.", EdgesOfRooms::howManyClashes);
        Section clash = Section.of("Promise 25: clash");
        clash.says("Of the i-th CLASH (0 to 1127) the KEY of the one ahead (what = 0), of the other one (1),", EdgesOfRooms::whoClash);
        clash.says("how many points both hold (2);", EdgesOfRooms::pointsOfBoth);
        clash.says("NONE.", EdgesOfRooms::noClash);
        clash.says("BAD.", EdgesOfRooms::clashBad);
        Section alone = Section.of("Promise 26: alone");
        alone.says("Who are ALONE, as bits of KEYS.", EdgesOfRooms::aloneBits);
        Section group = Section.of("Promise 27: group");
        group.says("GROUPS: how many in all (key = NONE),", EdgesOfRooms::howManyGroups);
        group.says("the least KEY of its own (what = 0), how many are in its own (1).", EdgesOfRooms::ownGroup);
        group.says("BAD;", EdgesOfRooms::groupBad);
        group.says("NOT: there is none.", EdgesOfRooms::groupNot);
    }

    // ---- promises 20, 21

    private static void deep() {
        SpanBook x = new SpanBook();
        Due.is("a new object", x.deep(), 0);
        x.put(9, Due.LOW, Due.HIGH);
        Due.is("one", x.deep(), 1);
        x.drop(9);
        Due.is("without SPANS again", x.deep(), 0);
        Due.is("all 48 in one point", Due.all(-47, 1, 1, 1).deep(), 48);
        Due.is("47 of 48 in one point", Due.all(-46, 1, 1, 1).deep(), 47);
        Due.is("at the last point of THE RANGE", Due.book(0, 0, Due.HIGH, 1, Due.HIGH - 1, Due.HIGH).deep(), 2);
        Due.is("at the first point of THE RANGE", Due.book(0, Due.LOW, 0, 1, Due.LOW, Due.LOW + 1).deep(), 2);
    }

    private static void point() {
        Due.is("the least there can be", Due.book(9, Due.LOW, Due.LOW + 1).point(), Due.LOW);
        Due.is("the greatest there can be", Due.book(9, Due.HIGH - 1, Due.HIGH).point(), Due.HIGH - 1);
        Due.is("all 48 in one point", Due.all(-47, 1, 1, 1).point(), 0);
        Due.is("48 like ones", Due.all(5, 0, 9, 0).point(), 5);
        Due.is("of two like deep points the less", Due.book(0, 10, 20, 1, -20, -10).point(), -20);
    }

    private static void noPoint() {
        SpanBook x = new SpanBook();
        Due.is("a new object", x.point(), Due.LEAST);
        x.put(9, 3, 4);
        Due.is("one", x.point(), 3);
        x.undo();
        Due.is("without SPANS again", x.point(), Due.LEAST);
    }

    // ---- promises 22, 23

    private static void howManyRooms() {
        SpanBook x = new SpanBook();
        Due.is("no SPANS", x.room(Due.NONE), 0);
        x.put(47, 0, 5);
        Due.is("one", x.room(Due.NONE), 1);
        x.undo();
        Due.is("no SPANS again", x.room(Due.NONE), 0);
        Due.is("48 like ones", Due.all(0, 0, 1, 0).room(Due.NONE), 48);
        Due.is("48 that touch", Due.all(0, 1, 1, 1).room(Due.NONE), 1);
        Due.is("48, each with the next", Due.all(0, 1, 2, 1).room(Due.NONE), 2);
    }

    private static void ownRoom() {
        SpanBook x = Due.all(47, -1, 100, 0);
        Due.is("the first in ORDER", x.room(47), 0);
        Due.is("the last in ORDER", x.room(0), 47);
        SpanBook next = Due.all(0, 1, 2, 1);
        Due.is("each with the next, the last", next.room(47), 1);
        Due.is("each with the next, the last but one", next.room(46), 0);
        Due.is("ends of THE RANGE", Kind.SOME.make().room(47), 0);
    }

    private static void howManyKept() {
        SpanBook x = new SpanBook();
        Due.is("no SPANS", x.keep(Due.NONE), 0);
        x.put(47, Due.LOW, Due.HIGH);
        Due.is("one", x.keep(Due.NONE), 1);
        x.undo();
        Due.is("no SPANS again", x.keep(Due.NONE), 0);
        Due.is("48 that touch", Due.all(0, 1, 1, 1).keep(Due.NONE), 48);
        Due.is("48, each with the next", Due.all(0, 1, 2, 1).keep(Due.NONE), 24);
        Due.is("48 like ones", Due.all(0, 0, 1, 0).keep(Due.NONE), 1);
    }

    private static void whichKept() {
        SpanBook x = Due.all(47, -1, 48, -1);
        Due.is("the least i", x.keep(0), 47);
        Due.is("the greatest i", x.keep(47), 0);
        x.drop(0);
        Due.is("46 of 47", x.keep(46), 1);
        Due.is("47 of 47", x.keep(47), Due.NONE);
        Due.is("0 of none", new SpanBook().keep(0), Due.NONE);
        Due.is("47 of none", new SpanBook().keep(47), Due.NONE);
        Due.is("1 of 1", Due.all(0, 0, 1, 0).keep(1), Due.NONE);
        SpanBook ends = Kind.SOME.make();
        Due.is("at the beginning of THE RANGE", ends.keep(0), 0);
        Due.is("at the end of THE RANGE", ends.keep(3), 47);
    }

    // ---- promises 24, 25

    private static void howManyClashes() {
        SpanBook x = new SpanBook();
        Due.is("no SPANS", x.clashes(), 0);
        x.put(0, 0, 5);
        Due.is("one SPAN", x.clashes(), 0);
        x.put(1, 4, 9);
        Due.is("one CLASH", x.clashes(), 1);
        x.undo();
        Due.is("none again", x.clashes(), 0);
        SpanBook all = Due.all(Due.LOW, 0, Due.HIGH, 0);
        Due.is("the most there can be", all.clashes(), 1128);
        all.drop(47);
        Due.is("of 47", all.clashes(), 1081);
    }

    private static void whoClash() {
        SpanBook x = Due.all(47, -1, 100, 0);
        Due.is("the least i, ahead", x.clash(0, 0), 47);
        Due.is("the least i, the other one", x.clash(0, 1), 46);
        Due.is("the greatest i, ahead", x.clash(1127, 0), 1);
        Due.is("the greatest i, the other one", x.clash(1127, 1), 0);
        Due.is("the last of the first", x.clash(46, 1), 0);
        Due.is("the first of the second", x.clash(47, 0), 46);
        SpanBook next = Due.all(0, 1, 2, 1);
        Due.is("each with the next, the last", next.clash(46, 0), 46);
        Due.is("each with the next, the last", next.clash(46, 1), 47);
        SpanBook gap = Due.book(0, 0, 5, 1, 10, 20, 2, 19, 25);
        Due.is("the first has none", gap.clash(0, 0), 1);
    }

    private static void pointsOfBoth() {
        Due.is("one point", Due.book(0, 0, 5, 1, 4, 9).clash(0, 2), 1);
        Due.is("one within another", Due.book(0, 0, 9, 1, 4, 6).clash(0, 2), 2);
        Due.is("like ones", Due.book(0, 0, 9, 1, 0, 9).clash(0, 2), 9);
        Due.is("all of THE RANGE", Due.book(0, Due.LOW, Due.HIGH, 1, Due.LOW, Due.HIGH).clash(0, 2), 2000000000);
        Due.is("the first point of THE RANGE", Due.book(0, Due.LOW, Due.HIGH, 1, Due.LOW, Due.LOW + 1).clash(0, 2), 1);
        Due.is("the last point of THE RANGE", Due.book(0, Due.LOW, Due.HIGH, 1, Due.HIGH - 1, Due.HIGH).clash(0, 2), 1);
        Due.is("of the greatest i", Due.all(47, -1, 100, 0).clash(1127, 2), 53);
    }

    private static void noClash() {
        SpanBook all = Due.all(0, 0, 1, 0);
        all.drop(47);
        SpanBook one = Due.book(0, 0, 5, 1, 4, 9, 2, 9, 10);
        for (int what = 0; what <= 2; what++) {
            Due.is("0 of none", new SpanBook().clash(0, what), Due.NONE);
            Due.is("1127 of none", new SpanBook().clash(1127, what), Due.NONE);
            Due.is("1 of 1", one.clash(1, what), Due.NONE);
            Due.is("1081 of 1081", all.clash(1081, what), Due.NONE);
            Due.is("1127 of 1081", all.clash(1127, what), Due.NONE);
        }
        Due.is("1080 of 1081", all.clash(1080, 0), 45);
    }

    private static void clashBad() {
        for (int what = 0; what <= 2; what++) {
            Refused.badBeyond(0, 0, 1127, "clash", 0, what);
        }
        Refused.badBeyond(1, 0, 2, "clash", 0, 0);
        Refused.badBeyond(1, 0, 2, "clash", 1127, 0);
    }

    // ---- promises 26, 27

    private static void aloneBits() {
        Due.is("no SPANS", new SpanBook().alone(), 0);
        for (int key = 0; key <= 47; key++) {
            Due.is("only " + key, Due.book(key, 0, 1).alone(), 1L << key);
        }
        Due.is("48 that touch", Due.all(0, 1, 1, 1).alone(), 281474976710655L);
        Due.is("48 like ones", Due.all(0, 0, 1, 0).alone(), 0);
        Due.is("48, each with the next", Due.all(0, 1, 2, 1).alone(), 0);
        Due.is("the ends of THE RANGE and 7", Kind.SOME.make().alone(), (1L << 47) + (1L << 7) + 1);
    }

    private static void howManyGroups() {
        SpanBook x = new SpanBook();
        for (int what = 0; what <= 1; what++) {
            Due.is("no SPANS", x.group(Due.NONE, what), 0);
            Due.is("one", Due.book(47, 0, 1).group(Due.NONE, what), 1);
            Due.is("48 that touch", Due.all(0, 1, 1, 1).group(Due.NONE, what), 48);
            Due.is("48, each with the next", Due.all(0, 1, 2, 1).group(Due.NONE, what), 1);
            Due.is("48 like ones", Due.all(Due.LOW, 0, Due.HIGH, 0).group(Due.NONE, what), 1);
        }
    }

    private static void ownGroup() {
        SpanBook one = Due.book(47, 0, 1);
        Due.is("one, least KEY", one.group(47, 0), 47);
        Due.is("one, how many", one.group(47, 1), 1);
        SpanBook chain = Due.all(0, 1, 2, 1);
        SpanBook apart = Due.all(0, 1, 1, 1);
        for (int key : new int[] {0, 47}) {
            Due.is("all 48 in one, least KEY", chain.group(key, 0), 0);
            Due.is("all 48 in one, how many", chain.group(key, 1), 48);
            Due.is("48 by themselves, least KEY", apart.group(key, 0), key);
            Due.is("48 by themselves, how many", apart.group(key, 1), 1);
        }
        SpanBook late = Due.book(9, 0, 5, 4, 4, 8, 6, 7, 9);
        Due.is("the least KEY between", late.group(9, 0), 4);
        Due.is("the least KEY between", late.group(6, 0), 4);
    }

    private static void groupBad() {
        for (int what = 0; what <= 1; what++) {
            Refused.badBeyond(0, Due.NONE, 47, "group", 0, what);
        }
        Refused.badBeyond(1, 0, 1, "group", 0, 0);
        Refused.badBeyond(1, 0, 1, "group", 9, 0);
        Refused.badBeyond(1, 0, 1, "group", Due.NONE, 0);
    }

    private static void groupNot() {
        for (int what = 0; what <= 1; what++) {
            Refused.notThere(Due.NOT, "group", what);
        }
    }
}
