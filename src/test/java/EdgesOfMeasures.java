/** Boundary cases of "Terms": TAKEN, FREE parts, DEEP, ROOMS, KEEP, CLASHES, ALONE, GROUPS, places. */
final class EdgesOfMeasures {
    private EdgesOfMeasures() {
    }

    static void all() {
        Section terms = Section.of("Terms");
        terms.says("TAKEN of a stretch: how many of its points SPANS hold.", EdgesOfMeasures::taken);
        terms.says("FREE parts of a stretch: as long as each may be,", EdgesOfMeasures::freeParts);
        terms.says("from left to right,", EdgesOfMeasures::freeFromLeft);
        terms.says("of points that no SPAN holds.", EdgesOfMeasures::freePoints);
        terms.says("DEEP: how many SPANS at most hold one point;", EdgesOfMeasures::deep);
        terms.says("the least such point.", EdgesOfMeasures::deepPoint);
        terms.says("ROOMS: of SPANS in ORDER each gets the least number from 0 on that no SPAN ahead of it in ORDER has with which it MEETS.",
            EdgesOfMeasures::rooms);
        terms.says("KEEP: SPANS are looked at by TO, of like ones by ORDER;", EdgesOfMeasures::keepOrder);
        terms.says("each is kept that MEETS none that is kept.", EdgesOfMeasures::kept);
        terms.says("A CLASH is a pair of SPANS that MEET,", EdgesOfMeasures::clashes);
        terms.says("by the RANK of the one ahead, of like ones by the RANK of the other one.", EdgesOfMeasures::clashOrder);
        terms.says("ALONE is who MEETS no other one.", EdgesOfMeasures::alone);
        terms.says("A GROUP is of SPANS that hang together: two that MEET are of one GROUP", EdgesOfMeasures::groups);
        terms.says("(so there may be one that MEETS both, and so on).", EdgesOfMeasures::groupChains);
        terms.says("A place for SIZE (1 to 1000000000)", EdgesOfMeasures::sizes);
        terms.says("is a point p so that p and p and SIZE are in THE RANGE,", EdgesOfMeasures::placeInRange);
        terms.says("and no SPAN MEETS the stretch from p to p and SIZE.", EdgesOfMeasures::placeIsFree);
        terms.says("NEXT to a point: the least place that is not less;", EdgesOfMeasures::next);
        terms.says("LAST: the greatest place that with SIZE does not go beyond the point;", EdgesOfMeasures::last);
        terms.says("NEAREST: the place which is least far from the point,", EdgesOfMeasures::nearest);
        terms.says("of like ones the less.", EdgesOfMeasures::nearestAlike);
    }

    // ---- what is taken, what is free

    private static void taken() {
        Due.is("no SPANS", new SpanBook().taken(Due.LOW, Due.HIGH), 0);
        Due.is("all of THE RANGE", Due.book(0, Due.LOW, Due.HIGH).taken(Due.LOW, Due.HIGH), 2000000000);
        Due.is("48 like ones count once", Due.all(3, 0, 9, 0).taken(0, 20), 6);
        Due.is("48 single points", Due.all(0, 2, 1, 2).taken(Due.LOW, Due.HIGH), 48);
        Due.is("one within another", Due.book(0, 0, 10, 1, 3, 4).taken(-5, 15), 10);
        Due.is("two that touch", Due.book(0, 0, 10, 1, 10, 12).taken(-5, 15), 12);
        SpanBook x = Due.book(0, 0, 10);
        Due.is("cut at a", x.taken(9, 15), 1);
        Due.is("a is TO", x.taken(10, 15), 0);
        Due.is("cut at b", x.taken(-5, 1), 1);
        Due.is("b is FROM", x.taken(-5, 0), 0);
    }

    private static void freeParts() {
        SpanBook x = new SpanBook();
        Due.is("one for all of THE RANGE", x.frees(Due.LOW, Due.HIGH), 1);
        Due.is("begins", x.free(Due.LOW, Due.HIGH, 0, 0), Due.LOW);
        Due.is("behind", x.free(Due.LOW, Due.HIGH, 0, 1), Due.HIGH);
        SpanBook y = Due.book(0, 0, 10, 1, 20, 30);
        Due.is("up to FROM", y.free(-50, 50, 0, 1), 0);
        Due.is("from TO on", y.free(-50, 50, 1, 0), 10);
        Due.is("up to FROM", y.free(-50, 50, 1, 1), 20);
        Due.is("from TO on", y.free(-50, 50, 2, 0), 30);
        Due.is("up to b", y.free(-50, 50, 2, 1), 50);
        Due.is("cut at a and b", y.free(12, 15, 0, 1) - y.free(12, 15, 0, 0), 3);
        SpanBook ends = Due.book(0, Due.LOW + 1, Due.HIGH - 1);
        Due.is("the first point of THE RANGE", ends.free(Due.LOW, Due.HIGH, 0, 1), Due.LOW + 1);
        Due.is("the last point of THE RANGE", ends.free(Due.LOW, Due.HIGH, 1, 0), Due.HIGH - 1);
    }

    private static void freeFromLeft() {
        // put in from right to left
        SpanBook x = Due.all(470, -10, 471, -10);
        Due.is("49 parts", x.frees(-9, 480), 49);
        for (int i = 0; i <= 48; i++) {
            Due.is("part " + i + " begins", x.free(-9, 480, i, 0), 10 * i - 9);
            Due.is("behind part " + i, x.free(-9, 480, i, 1), 10 * i);
        }
    }

    private static void freePoints() {
        Due.is("none between two that touch", Due.book(0, 0, 10, 1, 10, 20).frees(0, 20), 0);
        Due.is("a single one", Due.book(0, 0, 10, 1, 11, 20).frees(0, 20), 1);
        Due.is("none at all", Due.book(0, Due.LOW, Due.HIGH).frees(Due.LOW, Due.HIGH), 0);
        Due.is("one within another", Due.book(0, 0, 10, 1, 3, 4).frees(0, 10), 0);
        Due.is("the one within ends first", Due.book(0, 0, 10, 1, 3, 4).free(0, 12, 0, 0), 10);
    }

    // ---- rooms, what is kept, clashes, groups

    private static void deep() {
        Due.is("no SPANS", new SpanBook().deep(), 0);
        Due.is("one", Due.book(0, Due.LOW, Due.HIGH).deep(), 1);
        Due.is("two that touch", Due.book(0, 0, 5, 1, 5, 9).deep(), 1);
        Due.is("two with one point", Due.book(0, 0, 5, 1, 4, 9).deep(), 2);
        Due.is("two pairs, no point of three", Due.book(0, 0, 5, 1, 4, 9, 2, 8, 12).deep(), 2);
        Due.is("48 like ones", Due.all(0, 0, 1, 0).deep(), 48);
        Due.is("48 that touch", Due.all(0, 1, 1, 1).deep(), 1);
    }

    private static void deepPoint() {
        Due.is("the first point of THE RANGE", Due.book(0, Due.LOW, Due.HIGH).point(), Due.LOW);
        Due.is("the last point of THE RANGE", Due.book(0, Due.LOW, Due.HIGH, 1, Due.HIGH - 1, Due.HIGH).point(), Due.HIGH - 1);
        Due.is("of two that touch", Due.book(0, 5, 9, 1, 0, 5).point(), 0);
        Due.is("of two like deep ones", Due.book(0, 50, 60, 1, 55, 60, 2, 0, 9, 3, 8, 10).point(), 8);
        Due.is("48 within each other", Due.all(0, 1, 100, -1).point(), 47);
    }

    private static void rooms() {
        Due.is("from 0 on", Due.book(30, 0, 5).room(30), 0);
        Due.is("two that touch", Due.book(0, 0, 5, 1, 5, 9).room(1), 0);
        Due.is("two with one point", Due.book(0, 0, 5, 1, 4, 9).room(1), 1);
        Due.is("in ORDER, not by KEY", Due.book(0, 4, 9, 1, 0, 5).room(0), 1);
        SpanBook again = Due.book(0, 0, 3, 1, 1, 9, 2, 2, 4, 3, 3, 8, 4, 4, 9);
        int[] due = {0, 1, 2, 0, 2};
        for (int key = 0; key < due.length; key++) {
            Due.is("the least that is free again, room(" + key + ")", again.room(key), due[key]);
        }
        SpanBook all = Due.all(0, 0, 1, 0);
        for (int key = 0; key < 48; key++) {
            Due.is("48 like ones, room(" + key + ")", all.room(key), key);
        }
    }

    private static void keepOrder() {
        Due.is("by TO, not by FROM", Due.book(0, 0, 10, 1, 8, 9).keep(0), 1);
        Due.is("of like TO by FROM", Due.book(0, 3, 10, 1, 0, 10).keep(0), 1);
        Due.is("of like ones by KEY", Due.book(9, 0, 10, 4, 0, 10).keep(0), 4);
        Due.is("the least TO", Due.book(0, Due.LOW, Due.HIGH, 1, Due.LOW, Due.LOW + 1).keep(0), 1);
        SpanBook all = Due.all(470, -10, 471, -10);
        for (int i = 0; i < 48; i++) {
            Due.is("48 by TO, keep(" + i + ")", all.keep(i), 47 - i);
        }
        // in ORDER 5 6 7 8, by TO 6 7 8 5
        SpanBook over = Due.book(5, 0, 100, 6, 1, 2, 7, 3, 4, 8, 5, 99);
        for (int i = 0; i < 3; i++) {
            Due.is("a long one over all, keep(" + i + ")", over.keep(i), 6 + i);
        }
        Due.is("a long one over all", over.keep(3), Due.NONE);
        // in ORDER 24 long ones are ahead of 24 single points, by TO they are behind them
        SpanBook half = new SpanBook();
        for (int key = 0; key < 24; key++) {
            half.put(key, -100 - key, 1000 + key);
            half.put(24 + key, 2 * key, 2 * key + 1);
        }
        for (int i = 0; i < 48; i++) {
            Due.is("24 long ones, keep(" + i + ")", half.keep(i), i < 24 ? 24 + i : Due.NONE);
        }
    }

    private static void kept() {
        Due.is("two that touch", Due.book(0, 0, 5, 1, 5, 9).keep(Due.NONE), 2);
        Due.is("two with one point", Due.book(0, 0, 5, 1, 4, 9).keep(Due.NONE), 1);
        SpanBook x = Due.book(0, 0, 5, 1, 4, 8, 2, 7, 9);
        Due.is("who MEETS one that is not kept", x.keep(1), 2);
        Due.is("how many", x.keep(Due.NONE), 2);
        Due.is("one within another, below 0", Due.book(5, -100, -1, 6, -50, -40).keep(Due.NONE), 1);
        SpanBook gone = Due.book(5, 0, 1, 9, 500, 501);
        Due.is("both", gone.keep(Due.NONE), 2);
        gone.drop(9);
        gone.put(6, -7, 1);
        Due.is("none that is taken out", gone.keep(Due.NONE), 1);
        Due.is("48 like ones", Due.all(0, 0, 1, 0).keep(Due.NONE), 1);
        Due.is("48 that touch", Due.all(0, 1, 1, 1).keep(Due.NONE), 48);
        Due.is("none", new SpanBook().keep(Due.NONE), 0);
    }

    private static void clashes() {
        Due.is("none", new SpanBook().clashes(), 0);
        Due.is("none with itself", Due.book(0, 0, 5).clashes(), 0);
        Due.is("two that touch", Due.book(0, 0, 5, 1, 5, 9).clashes(), 0);
        Due.is("two with one point", Due.book(0, 0, 5, 1, 4, 9).clashes(), 1);
        Due.is("48 like ones", Due.all(0, 0, 1, 0).clashes(), 1128);
        Due.is("48 that touch", Due.all(0, 1, 1, 1).clashes(), 0);
        Due.is("48, each with the next", Due.all(0, 1, 2, 1).clashes(), 47);
    }

    private static void clashOrder() {
        // in ORDER 9 8 3 7; 9 MEETS 8 alone
        SpanBook x = Due.book(3, 5, 9, 7, 6, 8, 8, 2, 7, 9, 0, 3);
        int[][] due = {{9, 8}, {8, 3}, {8, 7}, {3, 7}};
        for (int i = 0; i < due.length; i++) {
            Due.is("clash(" + i + ", 0)", x.clash(i, 0), due[i][0]);
            Due.is("clash(" + i + ", 1)", x.clash(i, 1), due[i][1]);
        }
        SpanBook all = Due.all(0, 0, 1, 0);
        int[][] rows = {{0, 0, 1}, {46, 0, 47}, {47, 1, 2}, {92, 1, 47}, {93, 2, 3}, {1126, 45, 47}, {1127, 46, 47}};
        for (int[] row : rows) {
            Due.is("of 48, clash(" + row[0] + ", 0)", all.clash(row[0], 0), row[1]);
            Due.is("of 48, clash(" + row[0] + ", 1)", all.clash(row[0], 1), row[2]);
        }
    }

    private static void alone() {
        Due.is("none", new SpanBook().alone(), 0);
        Due.is("one", Due.book(0, Due.LOW, Due.HIGH).alone(), 1);
        Due.is("two that touch", Due.book(0, 0, 5, 1, 5, 9).alone(), 3);
        Due.is("two with one point", Due.book(0, 0, 5, 1, 4, 9).alone(), 0);
        Due.is("one of three", Due.book(0, 0, 5, 1, 4, 9, 2, 9, 10).alone(), 4);
        Due.is("a long one over all", Due.book(0, 0, 1, 1, 5, 6, 2, 0, 9).alone(), 0);
    }

    private static void groups() {
        SpanBook touching = Due.book(0, 0, 5, 1, 5, 9);
        Due.is("two that touch", touching.group(Due.NONE, 0), 2);
        Due.is("two that touch", touching.group(1, 0), 1);
        SpanBook meeting = Due.book(0, 0, 5, 1, 4, 9);
        Due.is("two with one point", meeting.group(Due.NONE, 0), 1);
        Due.is("two with one point", meeting.group(1, 0), 0);
        Due.is("48 that touch", Due.all(0, 1, 1, 1).group(Due.NONE, 0), 48);
        Due.is("48 like ones", Due.all(0, 0, 1, 0).group(47, 1), 48);
    }

    private static void groupChains() {
        SpanBook chain = Due.all(0, 1, 2, 1);
        Due.is("48, each with the next", chain.group(Due.NONE, 0), 1);
        Due.is("the last is of the first's", chain.group(47, 0), 0);
        Due.is("all are of it", chain.group(47, 1), 48);
        SpanBook over = Due.book(9, 0, 1, 8, 5, 6, 7, 10, 11, 6, 0, 6);
        Due.is("one over two", over.group(9, 1), 3);
        Due.is("not over the third", over.group(7, 1), 1);
        // the short one that ends first must not end the GROUP of the long one
        SpanBook within = Due.book(3, 0, 20, 4, 1, 2, 5, 19, 25);
        Due.is("a long one over a short one", within.group(5, 1), 3);
    }

    // ---- places

    private static void sizes() {
        SpanBook x = new SpanBook();
        for (int what = 0; what <= 2; what++) {
            Due.is("the least, what " + what, x.place(0, 1, what), what == 1 ? -1 : 0);
            Due.is("the greatest, what " + what, x.place(0, Due.HIGH, what), what == 1 ? Due.LOW : 0);
            Refused.badAsLeastBeyond(1, 1, Due.HIGH, "place", 0, 1, what);
        }
    }

    private static void placeInRange() {
        SpanBook x = new SpanBook();
        Due.is("p and SIZE is the end", x.place(Due.HIGH - 7, 7, 0), Due.HIGH - 7);
        Due.is("p and SIZE is beyond", x.place(Due.HIGH - 6, 7, 0), Due.LEAST);
        Due.is("p is the beginning", x.place(Due.LOW + 7, 7, 1), Due.LOW);
        Due.is("p is ahead of it", x.place(Due.LOW + 6, 7, 1), Due.LEAST);
        Due.is("NEAREST to the end", x.place(Due.HIGH, 7, 2), Due.HIGH - 7);
        Due.is("NEAREST to the beginning", x.place(Due.LOW, 7, 2), Due.LOW);
        Due.is("the greatest SIZE at the end", x.place(Due.HIGH, Due.HIGH, 2), 0);
        Due.is("the greatest SIZE, beyond", x.place(1, Due.HIGH, 0), Due.LEAST);
        Due.is("the greatest SIZE, ahead", x.place(-1, Due.HIGH, 1), Due.LEAST);
    }

    private static void placeIsFree() {
        SpanBook x = Due.book(0, 0, 10, 1, 17, 30);
        Due.is("just as long as is free", x.place(3, 7, 0), 10);
        Due.is("one longer", x.place(3, 8, 0), 30);
        Due.is("just as long as is free", x.place(20, 7, 1), 10);
        Due.is("one longer", x.place(20, 8, 1), -8);
        SpanBook tight = Due.book(0, 0, 10, 1, 10, 30);
        Due.is("none between two that touch", tight.place(3, 1, 0), 30);
        Due.is("none between two that touch", tight.place(25, 1, 1), -1);
        for (int what = 0; what <= 2; what++) {
            Due.is("none at all", Due.book(0, Due.LOW, Due.HIGH).place(0, 1, what), Due.LEAST);
        }
    }

    private static void next() {
        SpanBook x = Due.book(0, 0, 10);
        Due.is("the point itself", x.place(10, 5, 0), 10);
        Due.is("from TO on", x.place(9, 5, 0), 10);
        Due.is("up to FROM", x.place(-5, 5, 0), -5);
        Due.is("no more up to FROM", x.place(-4, 5, 0), 10);
        Due.is("not less than the point", x.place(50, 5, 0), 50);
        SpanBook end = Due.book(0, Due.HIGH - 3, Due.HIGH);
        Due.is("the last place there is", end.place(Due.HIGH - 5, 2, 0), Due.HIGH - 5);
        Due.is("none behind it", end.place(Due.HIGH - 4, 2, 0), Due.LEAST);
    }

    private static void last() {
        SpanBook x = Due.book(0, 0, 10);
        Due.is("just up to the point", x.place(15, 5, 1), 10);
        Due.is("no more from TO on", x.place(14, 5, 1), -5);
        Due.is("up to FROM", x.place(1, 5, 1), -5);
        Due.is("up to the point", x.place(-1, 5, 1), -6);
        Due.is("not beyond the point", x.place(50, 5, 1), 45);
        SpanBook beginning = Due.book(0, Due.LOW, Due.LOW + 3);
        Due.is("the first place there is", beginning.place(Due.LOW + 5, 2, 1), Due.LOW + 3);
        Due.is("none ahead of it", beginning.place(Due.LOW + 4, 2, 1), Due.LEAST);
    }

    private static void nearest() {
        SpanBook x = Due.book(0, 0, 10);
        Due.is("the point itself", x.place(10, 5, 2), 10);
        Due.is("it may go beyond the point", x.place(-5, 5, 2), -5);
        Due.is("ahead is nearer", x.place(2, 5, 2), -5);
        Due.is("behind is nearer", x.place(3, 5, 2), 10);
        SpanBook between = Due.book(0, 0, 10, 1, 17, 30);
        Due.is("the last point from which it is free", between.place(12, 5, 2), 12);
        Due.is("one behind that", between.place(13, 5, 2), 12);
        Due.is("some behind that", between.place(16, 5, 2), 12);
        Due.is("only behind", Due.book(0, Due.LOW, 10).place(Due.LOW, 5, 2), 10);
        Due.is("only ahead", Due.book(0, 0, Due.HIGH).place(Due.HIGH, 5, 2), -5);
        SpanBook wide = Due.book(0, Due.LOW + 1, Due.HIGH - 1);
        Due.is("as far as can be", wide.place(Due.HIGH, 1, 2), Due.HIGH - 1);
        Due.is("as far as can be", wide.place(Due.LOW, 1, 2), Due.LOW);
        SpanBook left = Due.book(0, Due.LOW + 1, Due.HIGH);
        Due.is("from one end to the other", left.place(Due.HIGH, 1, 2), Due.LOW);
        SpanBook right = Due.book(0, Due.LOW, Due.HIGH - 1);
        Due.is("from one end to the other", right.place(Due.LOW, 1, 2), Due.HIGH - 1);
    }

    private static void nearestAlike() {
        SpanBook x = Due.book(0, 0, 9);
        Due.is("7 ahead, 7 behind", x.place(2, 5, 2), -5);
        Due.is("6 behind", x.place(3, 5, 2), 9);
        SpanBook wide = Due.book(0, Due.LOW + 1, Due.HIGH - 2);
        Due.is("far apart, alike", wide.place(-1, 1, 2), Due.LOW);
        Due.is("far apart, behind is nearer", wide.place(0, 1, 2), Due.HIGH - 2);
    }
}
