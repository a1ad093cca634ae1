import java.util.function.ToIntFunction;

/** Boundary cases of promises 34 and 35: count, digest. */
final class EdgesOfCounts {
    private EdgesOfCounts() {
    }

    static void all() {
        Section count = Section.of("Promise 34: count");
        count.says("0 SPANS,", () -> counts(0, 1, 48, 48, 48));
        count.says("1 how many are DONE,", EdgesOfCounts::done);
        count.says("2 how many there are in the longest row down from ROOT (0 without),", EdgesOfCounts::longestRow);
        count.says("3 DEEP,", () -> counts(3, 1, 48, 1, 2));
        count.says("4 ROOMS,", () -> counts(4, 1, 48, 1, 2));
        count.says("5 KEEP,", () -> counts(5, 1, 1, 48, 24));
        count.says("6 GROUPS,", () -> counts(6, 1, 1, 48, 1));
        count.says("7 CLASHES,", () -> counts(7, 0, 1128, 0, 47));
        count.says("8 the number of the latest FINDING (0 before any).", EdgesOfCounts::findings);
        count.says("BAD.", () -> Refused.badBeyond(0, 0, 8, "count", 0));
        Section digest = Section.of("Promise 35: digest");
        digest.says("h is 17; h becomes 31 h and each of: count() 0 to 7; root(), point(), alone(); "
            + "of KEYS 0 to 47 span() 0, 1, rank(), tree() 0 to 5, end(), room(), group(it, 0 and 1); of 0 to 47 ranked(), keep(); "
            + "of 0 to 30 clash(it, 0 to 2); of p = -50, -30, .., 150 holds(p, NONE), holds(p, 1), place(p, 7, 0 to 2); "
            + "of a = -60, -20, 20, 60 and b = a and 90: looks(), meets(a, b, NONE), meets(a, b, 0), taken(), frees(), "
            + "free(a, b, 0, 0 and 1), free(a, b, 1, 0 and 1);", EdgesOfCounts::digests);
        digest.says("as longs that wrap.", EdgesOfCounts::longsThatWrap);
    }

    /** Without SPANS it is 0; then what is due of one SPAN, of 48 like ones, of 48 that touch, of 48, each with the next. */
    private static void counts(int what, int one, int like, int touching, int chain) {
        SpanBook x = new SpanBook();
        Due.is("without SPANS", x.count(what), 0);
        x.put(47, Due.LOW, Due.HIGH);
        Due.is("one SPAN", x.count(what), one);
        x.drop(47);
        Due.is("without SPANS again", x.count(what), 0);
        Due.is("48 like ones", Due.all(0, 0, 1, 0).count(what), like);
        Due.is("48 that touch", Due.all(0, 1, 1, 1).count(what), touching);
        Due.is("48, each with the next", Due.all(0, 1, 2, 1).count(what), chain);
    }

    private static void done() {
        SpanBook x = new SpanBook();
        Due.is("nothing", x.count(1), 0);
        x.put(5, 0, 1);
        for (int times = 1; times <= 70; times++) {
            Due.is("after " + times, x.count(1), Math.min(times, 64));
            x.move(5, 1);
        }
        for (int left = 63; left >= 0; left--) {
            x.undo();
            Due.is("undone", x.count(1), left);
        }
        x.undo();
        Due.is("refused", x.count(1), 0);
    }

    private static void longestRow() {
        SpanBook x = new SpanBook();
        Due.is("without ROOT", x.count(2), 0);
        x.put(33, 0, 1);
        Due.is("ROOT alone", x.count(2), 1);
        x.drop(33);
        Due.is("without ROOT again", x.count(2), 0);
        // 20 is heavier than 7, 7 than 3, 3 than 12
        Due.is("three, no longer than two", Due.book(20, 0, 1, 7, 5, 6, 3, -5, -4).count(2), 2);
        Due.is("to the left", Due.book(20, 0, 1, 7, -5, -4, 3, -9, -8, 12, -10, -9).count(2), 4);
        Due.is("to the right", Due.book(20, 0, 1, 7, 5, 6, 3, 8, 9, 12, 9, 10).count(2), 4);
        SpanBook chain = new SpanBook();
        for (long weight = 65535; weight >= 0; weight--) {
            for (int key = 0; key <= 47; key++) {
                if ((key + 1L) * 40503L % 65536L == weight) {
                    chain.put(key, chain.count(0), 100);
                }
            }
        }
        Due.is("all 48", chain.count(2), 48);
    }

    private static void findings() {
        SpanBook x = new SpanBook();
        Due.is("before any", x.count(8), 0);
        x.put(48, 0, 1);
        x.drop(0);
        x.put(5, Due.LOW, Due.HIGH);
        x.move(5, 1);
        x.get(4, 0, 0);
        Due.is("BAD, NOT and FAR are none", x.count(8), 0);
        x.sheet(0, 0, -1);
        Due.is("SIZE", x.count(8), 5);
        x.sheet(0, 0, 1);
        x.sheet(1, 1, 1);
        Due.is("it stays", x.count(8), 5);
        x.copy(0, 0, 1, 0, 0);
        Due.is("STORE", x.count(8), 4);
        x.lay(0, 1, 0, 0);
        Due.is("CAST", x.count(8), 3);
        x.get(0, 0, 1);
        Due.is("INDEX", x.count(8), 2);
        x.fill(3);
        Due.is("NULL", x.count(8), 1);
        x.undo();
        x.digest();
        x.lose(0);
        Due.is("undo() leaves it", x.count(8), 1);
    }

    // ---- digest

    /** Folds answers as the sentence says, each part with a book of its own, as an object is used for 512 calls at most. */
    private static long folded(Kind kind) {
        long h = 17;
        SpanBook x = kind.make();
        for (int what = 0; what <= 7; what++) {
            h = 31 * h + x.count(what);
        }
        h = 31 * h + x.root();
        h = 31 * h + x.point();
        h = 31 * h + x.alone();
        for (int key = 0; key <= 47; key++) {
            h = foldedKey(h, key % 16 == 0 ? x = kind.make() : x, key);
        }
        x = kind.make();
        for (int i = 0; i <= 47; i++) {
            h = 31 * h + x.ranked(i);
            h = 31 * h + x.keep(i);
        }
        for (int i = 0; i <= 30; i++) {
            for (int what = 0; what <= 2; what++) {
                h = 31 * h + x.clash(i, what);
            }
        }
        for (int p = -50; p <= 150; p += 20) {
            h = 31 * h + x.holds(p, Due.NONE);
            h = 31 * h + x.holds(p, 1);
            for (int what = 0; what <= 2; what++) {
                h = 31 * h + x.place(p, 7, what);
            }
        }
        for (int a : new int[] {-60, -20, 20, 60}) {
            h = foldedStretch(h, x, a, a + 90);
        }
        return h;
    }

    private static long foldedKey(long start, SpanBook x, int key) {
        long h = 31 * start + x.span(key, 0);
        h = 31 * h + x.span(key, 1);
        h = 31 * h + x.rank(key);
        for (int what = 0; what <= 5; what++) {
            h = 31 * h + x.tree(key, what);
        }
        h = 31 * h + x.end(key);
        h = 31 * h + x.room(key);
        h = 31 * h + x.group(key, 0);
        return 31 * h + x.group(key, 1);
    }

    private static long foldedStretch(long start, SpanBook x, int a, int b) {
        long h = 31 * start + x.looks(a, b);
        h = 31 * h + x.meets(a, b, Due.NONE);
        h = 31 * h + x.meets(a, b, 0);
        h = 31 * h + x.taken(a, b);
        h = 31 * h + x.frees(a, b);
        for (int i = 0; i <= 1; i++) {
            h = 31 * h + x.free(a, b, i, 0);
            h = 31 * h + x.free(a, b, i, 1);
        }
        return h;
    }

    private static void digests() {
        for (Kind kind : Kind.values()) {
            SpanBook x = kind.make();
            Due.is("of kind " + kind, x.digest(), folded(kind));
            Due.is("again, of kind " + kind, x.digest(), folded(kind));
            Due.is("it changes no FINDING", x.count(8), kind.make().count(8));
        }
        differ("one point more", x -> x.put(9, 1000, 1001));
        differ("one that is DONE", x -> x.move(5, 0));
    }

    private static void differ(String what, ToIntFunction<SpanBook> change) {
        SpanBook x = Kind.SOME.make();
        long before = x.digest();
        change.applyAsInt(x);
        Due.holds(what + " leaves the digest as it was", x.digest() != before);
        x.undo();
        Due.is(what + ", undone", x.digest(), before);
    }

    private static void longsThatWrap() {
        // told by ../shared/tests, of a new object: beyond the ints, and wrapped many times over
        Due.is("no SPANS", new SpanBook().digest(), 5031092426420773481L);
        Due.holds("all 48, beyond the ints", Kind.FULL.make().digest() != (int) Kind.FULL.make().digest());
    }
}
