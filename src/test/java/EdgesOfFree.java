/** Boundary cases of promises 14 to 19: meets, holds, taken, frees, free, place. */
final class EdgesOfFree {
    private EdgesOfFree() {
    }

    static void all() {
        Section meets = Section.of("Promise 14: meets");
        meets.says("SPANS that MEET a stretch: how many (i = NONE),", EdgesOfFree::howManyMeet);
        meets.says("the i-th in ORDER (0 to 47; NONE).", EdgesOfFree::whichMeet);
        meets.says("BAD.", EdgesOfFree::meetsBad);
        Section holds = Section.of("Promise 15: holds");
        holds.says("SPANS that hold a point of THE RANGE: how many (i = NONE),", EdgesOfFree::howManyHold);
        holds.says("the i-th in ORDER (0 to 47; NONE).", EdgesOfFree::whichHold);
        holds.says("BAD.", EdgesOfFree::holdsBad);
        Section taken = Section.of("Promise 16: taken");
        taken.says("TAKEN.", EdgesOfFree::taken);
        taken.says("BAD.", () -> Refused.badStretches(Due.BAD, "taken", 0, 0));
        Section frees = Section.of("Promise 17: frees");
        frees.says("FREE parts of a stretch: how many.", EdgesOfFree::howManyFree);
        frees.says("BAD.", () -> Refused.badStretches(Due.BAD, "frees", 0, 0));
        Section free = Section.of("Promise 18: free");
        free.says("Of the i-th FREE part (0 to 48) where it begins (what = 0), behind its last point (1).", EdgesOfFree::freePart);
        free.says("The least int: BAD,", EdgesOfFree::freeBad);
        free.says("or NONE.", EdgesOfFree::freeNone);
        Section place = Section.of("Promise 19: place");
        place.says("NEXT (what = 0),", EdgesOfFree::next);
        place.says("LAST (1),", EdgesOfFree::last);
        place.says("NEAREST (2)", EdgesOfFree::nearest);
        place.says("to a point of THE RANGE for SIZE.", EdgesOfFree::pointAndSize);
        place.says("The least int: BAD,", EdgesOfFree::placeBad);
        place.says("or NONE.", EdgesOfFree::placeNone);
    }

    // ---- promises 14, 15

    private static void howManyMeet() {
        Due.is("no SPANS", new SpanBook().meets(Due.LOW, Due.HIGH, Due.NONE), 0);
        Due.is("all 48", Due.all(0, 0, 1, 0).meets(0, 1, Due.NONE), 48);
        Due.is("all 48, in one point", Due.all(-47, 1, 1, 1).meets(0, 1, Due.NONE), 48);
        Due.is("none of 48, ahead", Due.all(0, 0, 1, 0).meets(-1, 0, Due.NONE), 0);
        Due.is("none of 48, behind", Due.all(0, 0, 1, 0).meets(1, 2, Due.NONE), 0);
        SpanBook ends = Kind.SOME.make();
        Due.is("the first point of THE RANGE", ends.meets(Due.LOW, Due.LOW + 1, Due.NONE), 1);
        Due.is("the last point of THE RANGE", ends.meets(Due.HIGH - 1, Due.HIGH, Due.NONE), 1);
        Due.is("all but these", ends.meets(Due.LOW + 1, Due.HIGH - 1, Due.NONE), 3);
    }

    private static void whichMeet() {
        SpanBook x = Due.all(47, -1, 100, 0);
        Due.is("the least i", x.meets(0, 100, 0), 47);
        Due.is("the greatest i", x.meets(0, 100, 47), 0);
        Due.is("47 of 47", x.meets(0, 47, 47), Due.NONE);
        Due.is("46 of 47", x.meets(0, 47, 46), 1);
        Due.is("0 of none", x.meets(100, 101, 0), Due.NONE);
        Due.is("0 without SPANS", new SpanBook().meets(0, 1, 0), Due.NONE);
        Due.is("47 without SPANS", new SpanBook().meets(0, 1, 47), Due.NONE);
        Due.is("not whose RANK it is", Due.book(1, 0, 5, 2, 10, 15).meets(10, 11, 0), 2);
    }

    private static void meetsBad() {
        Refused.badStretches(Due.BAD, "meets", 0, 0, Due.NONE);
        Refused.badStretches(Due.BAD, "meets", 0, 0, 0);
        Refused.badBeyond(2, Due.NONE, 47, "meets", 0, 1, 0);
    }

    private static void howManyHold() {
        SpanBook all = Due.book(4, Due.LOW, Due.HIGH);
        Due.is("the first point of THE RANGE", all.holds(Due.LOW, Due.NONE), 1);
        Due.is("the last that can be held", all.holds(Due.HIGH - 1, Due.NONE), 1);
        Due.is("the last point of THE RANGE", all.holds(Due.HIGH, Due.NONE), 0);
        Due.is("no SPANS", new SpanBook().holds(0, Due.NONE), 0);
        Due.is("all 48", Due.all(0, 0, 1, 0).holds(0, Due.NONE), 48);
        Due.is("none of 48, ahead", Due.all(0, 0, 1, 0).holds(-1, Due.NONE), 0);
        Due.is("none of 48, behind", Due.all(0, 0, 1, 0).holds(1, Due.NONE), 0);
    }

    private static void whichHold() {
        SpanBook x = Due.all(47, -1, 100, 0);
        Due.is("the least i", x.holds(50, 0), 47);
        Due.is("the greatest i", x.holds(50, 47), 0);
        Due.is("47 of 47", x.holds(46, 47), Due.NONE);
        Due.is("46 of 47", x.holds(46, 46), 1);
        Due.is("0 of none", x.holds(100, 0), Due.NONE);
        Due.is("0 without SPANS", new SpanBook().holds(0, 0), Due.NONE);
        Due.is("at the end of THE RANGE", Due.book(4, Due.LOW, Due.HIGH).holds(Due.HIGH, 0), Due.NONE);
        Due.is("just ahead of it", Due.book(4, Due.LOW, Due.HIGH).holds(Due.HIGH - 1, 0), 4);
        Due.is("not whose RANK it is", Due.book(1, 0, 5, 2, 10, 15).holds(10, 0), 2);
    }

    private static void holdsBad() {
        Refused.badBeyond(0, Due.LOW, Due.HIGH, "holds", 0, Due.NONE);
        Refused.badBeyond(0, Due.LOW, Due.HIGH, "holds", 0, 0);
        Refused.badBeyond(1, Due.NONE, 47, "holds", 0, 0);
    }

    // ---- promises 16 to 18

    private static void taken() {
        SpanBook ends = Kind.SOME.make();
        Due.is("the first point of THE RANGE", ends.taken(Due.LOW, Due.LOW + 1), 1);
        Due.is("the last point of THE RANGE", ends.taken(Due.HIGH - 1, Due.HIGH), 1);
        Due.is("all", ends.taken(Due.LOW, Due.HIGH), 18);
        Due.is("no SPANS", new SpanBook().taken(Due.LOW, Due.HIGH), 0);
        Due.is("all of THE RANGE", Due.book(9, Due.LOW, Due.HIGH).taken(Due.LOW, Due.HIGH), 2000000000);
        Due.is("all but its ends", Due.book(9, Due.LOW + 1, Due.HIGH - 1).taken(Due.LOW, Due.HIGH), 1999999998);
        Due.is("48 like ones", Due.all(Due.LOW, 0, Due.HIGH, 0).taken(Due.LOW, Due.HIGH), 2000000000);
        Due.is("48 apart", Due.all(0, 3, 2, 3).taken(1, 142), 94);
    }

    private static void howManyFree() {
        Due.is("no SPANS", new SpanBook().frees(Due.LOW, Due.HIGH), 1);
        Due.is("no SPANS, one point", new SpanBook().frees(Due.HIGH - 1, Due.HIGH), 1);
        Due.is("all is taken", Due.book(9, Due.LOW, Due.HIGH).frees(Due.LOW, Due.HIGH), 0);
        Due.is("the ends alone", Due.book(9, Due.LOW + 1, Due.HIGH - 1).frees(Due.LOW, Due.HIGH), 2);
        SpanBook x = Due.all(0, 2, 1, 2);
        Due.is("49, the most there can be", x.frees(-1, 96), 49);
        Due.is("not ahead of the first", x.frees(0, 96), 48);
        Due.is("not behind the last", x.frees(0, 95), 47);
        Due.is("48 that touch", Due.all(0, 1, 1, 1).frees(0, 48), 0);
    }

    private static void freePart() {
        SpanBook none = new SpanBook();
        Due.is("all of THE RANGE begins", none.free(Due.LOW, Due.HIGH, 0, 0), Due.LOW);
        Due.is("behind all of THE RANGE", none.free(Due.LOW, Due.HIGH, 0, 1), Due.HIGH);
        SpanBook x = Due.all(0, 2, 1, 2);
        Due.is("the least i begins", x.free(-1, 96, 0, 0), -1);
        Due.is("behind the least i", x.free(-1, 96, 0, 1), 0);
        Due.is("the greatest i begins", x.free(-1, 96, 48, 0), 95);
        Due.is("behind the greatest i", x.free(-1, 96, 48, 1), 96);
        Due.is("whole at the beginning", x.free(Due.LOW, Due.HIGH, 0, 0), Due.LOW);
        Due.is("whole at the end", x.free(Due.LOW, Due.HIGH, 48, 1), Due.HIGH);
        Due.is("i counts from a on", x.free(2, 96, 0, 0), 3);
    }

    private static void freeBad() {
        for (int what = 0; what <= 1; what++) {
            Refused.badStretches(Due.LEAST, "free", 0, 0, 0, what);
            Refused.badAsLeastBeyond(2, 0, 48, "free", 500, 600, 0, what);
        }
        Refused.badAsLeastBeyond(3, 0, 1, "free", 500, 600, 0, 0);
    }

    private static void freeNone() {
        for (int what = 0; what <= 1; what++) {
            Refused.is(Kind.NEW, Due.LEAST, "free", 0, 5, 1, what);
            Refused.is(Kind.NEW, Due.LEAST, "free", 0, 5, 48, what);
            Refused.is(Kind.SOME, Due.LEAST, "free", 0, 15, 0, what);
            Refused.is(Kind.SOME, Due.LEAST, "free", Due.LOW, Due.HIGH, 3, what);
            Due.is("48 of 48", Due.all(0, 2, 1, 2).free(0, 96, 48, what), Due.LEAST);
            Due.is("all is taken", Due.book(9, Due.LOW, Due.HIGH).free(Due.LOW, Due.HIGH, 0, what), Due.LEAST);
        }
    }

    // ---- promise 19

    private static void next() {
        SpanBook ends = Kind.SOME.make();
        Due.is("behind the first point of THE RANGE", ends.place(Due.LOW, 1, 0), Due.LOW + 1);
        Due.is("just ahead of the last", ends.place(Due.HIGH - 8, 7, 0), Due.HIGH - 8);
        Due.is("no more ahead of the last", ends.place(Due.HIGH - 7, 7, 0), Due.LEAST);
        Due.is("the greatest SIZE", new SpanBook().place(Due.LOW, Due.HIGH, 0), Due.LOW);
        SpanBook all = Due.all(0, 2, 1, 2);
        Due.is("between 48", all.place(0, 1, 0), 1);
        Due.is("behind 48", all.place(0, 2, 0), 95);
    }

    private static void last() {
        SpanBook ends = Kind.SOME.make();
        Due.is("ahead of the last point of THE RANGE", ends.place(Due.HIGH, 1, 1), Due.HIGH - 2);
        Due.is("just behind the first", ends.place(Due.LOW + 8, 7, 1), Due.LOW + 1);
        Due.is("no more behind the first", ends.place(Due.LOW + 7, 7, 1), Due.LEAST);
        Due.is("the greatest SIZE", new SpanBook().place(Due.HIGH, Due.HIGH, 1), 0);
        SpanBook all = Due.all(0, 2, 1, 2);
        Due.is("between 48", all.place(95, 1, 1), 93);
        Due.is("ahead of 48", all.place(95, 2, 1), -2);
    }

    private static void nearest() {
        SpanBook ends = Kind.SOME.make();
        Due.is("to the first point of THE RANGE", ends.place(Due.LOW, 1, 2), Due.LOW + 1);
        Due.is("to the last point of THE RANGE", ends.place(Due.HIGH, 1, 2), Due.HIGH - 2);
        Due.is("the greatest SIZE, from the end", new SpanBook().place(Due.HIGH, Due.HIGH, 2), 0);
        Due.is("the greatest SIZE, from the beginning", new SpanBook().place(Due.LOW, Due.HIGH, 2), Due.LOW);
        SpanBook all = Due.all(0, 2, 1, 2);
        Due.is("between 48, of like ones the less", all.place(50, 1, 2), 49);
        Due.is("48 and 49 away", all.place(46, 2, 2), -2);
        Due.is("49 and 48 away", all.place(47, 2, 2), 95);
    }

    private static void pointAndSize() {
        SpanBook x = new SpanBook();
        int[] sizes = {1, 2, 999999999, Due.HIGH};
        for (int size : sizes) {
            Due.is("NEXT to the beginning", x.place(Due.LOW, size, 0), Due.LOW);
            Due.is("LAST to the end", x.place(Due.HIGH, size, 1), Due.HIGH - size);
            Due.is("NEAREST to the beginning", x.place(Due.LOW, size, 2), Due.LOW);
            Due.is("NEAREST to the end", x.place(Due.HIGH, size, 2), Due.HIGH - size);
        }
    }

    private static void placeBad() {
        for (int what = 0; what <= 2; what++) {
            Refused.badAsLeastBeyond(0, Due.LOW, Due.HIGH, "place", 0, 1, what);
            Refused.badAsLeastBeyond(1, 1, Due.HIGH, "place", 0, 1, what);
        }
        Refused.badAsLeastBeyond(2, 0, 2, "place", 0, 1, 0);
    }

    private static void placeNone() {
        Refused.is(Kind.NEW, Due.LEAST, "place", Due.HIGH, 1, 0);
        Refused.is(Kind.NEW, Due.LEAST, "place", Due.LOW, 1, 1);
        Refused.is(Kind.SOME, Due.LEAST, "place", Due.HIGH - 1, 1, 0);
        Refused.is(Kind.SOME, Due.LEAST, "place", Due.LOW + 1, 1, 1);
        SpanBook parts = Due.all(-1, 2, 0, 2);
        for (int what = 0; what <= 2; what++) {
            Due.is("49 FREE parts, each too short", parts.place(0, Due.HIGH, what), Due.LEAST);
            SpanBook x = Due.book(5, 0, 10);
            Due.holds("there is a place", x.place(0, 5, what) != Due.LEAST);
            x.put(6, Due.LOW, Due.HIGH);
            Due.is("there is none any more", x.place(0, 5, what), Due.LEAST);
            Refused.is(Kind.SOME, Due.LEAST, "place", 0, Due.HIGH, what);
            Due.is("all is taken", Due.book(9, Due.LOW, Due.HIGH).place(0, 1, what), Due.LEAST);
        }
    }
}
