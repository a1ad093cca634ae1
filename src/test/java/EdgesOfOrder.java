import java.util.Arrays;

/** Boundary cases of promises 8 to 13: rank, ranked, root, tree, end, looks. */
final class EdgesOfOrder {
    private EdgesOfOrder() {
    }

    static void all() {
        Section rank = Section.of("Promise 8: rank");
        rank.says("RANK.", EdgesOfOrder::ranks);
        rank.says("BAD;", () -> Refused.badBeyond(0, 0, 47, "rank", 0));
        rank.says("NOT: there is none.", () -> Refused.notThere(Due.NOT, "rank"));
        Section ranked = Section.of("Promise 9: ranked");
        ranked.says("The KEY of a RANK (0 to 47);", EdgesOfOrder::keysOfRanks);
        ranked.says("NONE.", EdgesOfOrder::noRank);
        ranked.says("BAD.", () -> Refused.badBeyond(0, 0, 47, "ranked", 0));
        Section root = Section.of("Promise 10: root");
        root.says("ROOT: its KEY;", EdgesOfOrder::roots);
        root.says("NONE.", EdgesOfOrder::noRoot);
        tree(Section.of("Promise 11: tree"));
        Section end = Section.of("Promise 12: end");
        end.says("END.", EdgesOfOrder::ends);
        end.says("The least int: BAD, or there is none.", EdgesOfOrder::endLeast);
        Section looks = Section.of("Promise 13: looks");
        looks.says("How many THE TREE LOOKS AT for a stretch.", EdgesOfOrder::looks);
        looks.says("BAD.", () -> Refused.badStretches(Due.BAD, "looks", 0, 0));
    }

    private static void tree(Section tree) {
        tree.says("Whose LEFT or RIGHT it is (what = 0; NONE),", () -> chains(0));
        tree.says("its LEFT (1; NONE),", () -> chains(1));
        tree.says("its RIGHT (2; NONE),", () -> chains(2));
        tree.says("how many are above it (3),", () -> chains(3));
        tree.says("how many it is with all BELOW (4),", () -> chains(4));
        tree.says("how many there are in the longest row down from it, with it (5).", EdgesOfOrder::longestRow);
        tree.says("BAD;", EdgesOfOrder::treeBad);
        tree.says("NOT: there is none.", EdgesOfOrder::treeNot);
    }

    // ---- promises 8 to 10

    private static void ranks() {
        Due.is("one", Due.book(47, 0, 1).rank(47), 0);
        SpanBook x = Due.all(47, -1, 100, 0);
        for (int key = 0; key <= 47; key++) {
            Due.is("of 48, rank(" + key + ")", x.rank(key), 47 - key);
        }
        x.drop(47);
        Due.is("the first is gone", x.rank(46), 0);
        Due.is("the first is gone", x.rank(0), 46);
        SpanBook far = Kind.SOME.make();
        Due.is("at the beginning of THE RANGE", far.rank(0), 0);
        Due.is("at the end of THE RANGE", far.rank(47), 4);
    }

    private static void keysOfRanks() {
        SpanBook x = Due.all(47, -1, 100, 0);
        Due.is("the least RANK", x.ranked(0), 47);
        Due.is("the greatest RANK", x.ranked(47), 0);
        Due.is("between", x.ranked(1), 46);
        SpanBook far = Kind.SOME.make();
        Due.is("at the beginning of THE RANGE", far.ranked(0), 0);
        Due.is("at the end of THE RANGE", far.ranked(4), 47);
    }

    private static void noRank() {
        SpanBook none = new SpanBook();
        Due.is("0 without SPANS", none.ranked(0), Due.NONE);
        Due.is("47 without SPANS", none.ranked(47), Due.NONE);
        SpanBook x = Due.all(0, 0, 1, 0);
        Due.is("47 of 48", x.ranked(47), 47);
        x.drop(0);
        Due.is("46 of 47", x.ranked(46), 47);
        Due.is("47 of 47", x.ranked(47), Due.NONE);
        Due.is("1 of 1", Due.book(3, 0, 1).ranked(1), Due.NONE);
    }

    private static void roots() {
        Due.is("the least KEY", Due.book(0, 0, 1).root(), 0);
        Due.is("the greatest KEY", Due.book(47, 0, 1).root(), 47);
        // (20 and 1) times 40503 is 850563, modulo 65536 64131: none of the 48 has more
        Due.is("of 48", Due.all(0, 0, 1, 0).root(), 20);
        Due.is("the lightest by itself", Due.book(33, 0, 1).root(), 33);
        Due.is("beside the lightest", Due.book(33, 0, 1, 12, 5, 6).root(), 12);
    }

    private static void noRoot() {
        SpanBook x = new SpanBook();
        Due.is("a new object", x.root(), Due.NONE);
        x.put(20, 0, 1);
        x.undo();
        Due.is("undone", x.root(), Due.NONE);
        x.put(20, 0, 1);
        x.drop(20);
        Due.is("dropped", x.root(), Due.NONE);
    }

    // ---- promise 11

    /** All KEYS, the greatest WEIGHT first. */
    private static int[] byWeight() {
        return java.util.stream.IntStream.range(0, 48).boxed()
            .sorted((p, q) -> Integer.compare((q + 1) * 40503 % 65536, (p + 1) * 40503 % 65536))
            .mapToInt(Integer::intValue).toArray();
    }

    /** One alone, and the deepest trees there can be: each lighter one ahead of all heavier ones, or behind them. */
    private static void chains(int what) {
        int[] alone = {Due.NONE, Due.NONE, Due.NONE, 0, 1};
        for (int key : new int[] {0, 33, 47}) {
            Due.is("one alone", Due.book(key, Due.LOW, Due.HIGH).tree(key, what), alone[what]);
        }
        int[] keys = byWeight();
        SpanBook left = new SpanBook();
        SpanBook right = new SpanBook();
        for (int i = 0; i < 48; i++) {
            left.put(keys[i], -i, 100);
            right.put(keys[i], i, 100);
        }
        for (int i = 0; i < 48; i++) {
            int above = i == 0 ? Due.NONE : keys[i - 1];
            int below = i == 47 ? Due.NONE : keys[i + 1];
            int[] dueLeft = {above, below, Due.NONE, i, 48 - i};
            int[] dueRight = {above, Due.NONE, below, i, 48 - i};
            Due.is("all to the left, " + Call.text("tree", keys[i], what), left.tree(keys[i], what), dueLeft[what]);
            Due.is("all to the right, " + Call.text("tree", keys[i], what), right.tree(keys[i], what), dueRight[what]);
        }
    }

    private static void longestRow() {
        Due.is("one alone", Due.book(33, 0, 1).tree(33, 5), 1);
        // 20 is heavier than 7, 7 than 3, 3 than 12
        SpanBook x = Due.book(20, 0, 1, 7, 10, 11, 3, -10, -9, 12, -20, -19);
        Due.is("by its LEFT", x.tree(20, 5), 3);
        Due.is("RIGHT by itself", x.tree(7, 5), 1);
        x.move(12, 100);
        Due.is("by its RIGHT", x.tree(20, 5), 3);
        Due.is("LEFT by itself", x.tree(3, 5), 1);
        SpanBook chain = new SpanBook();
        int[] keys = byWeight();
        for (int i = 0; i < 48; i++) {
            chain.put(keys[i], i, 100);
        }
        for (int i = 0; i < 48; i++) {
            Due.is("all to the right, tree(" + keys[i] + ", 5)", chain.tree(keys[i], 5), 48 - i);
        }
    }

    private static void treeBad() {
        for (int what = 0; what <= 5; what++) {
            Refused.badBeyond(0, 0, 47, "tree", 0, what);
        }
        Refused.badBeyond(1, 0, 5, "tree", 0, 0);
        Refused.badBeyond(1, 0, 5, "tree", 9, 0);
    }

    private static void treeNot() {
        for (int what = 0; what <= 5; what++) {
            Refused.notThere(Due.NOT, "tree", what);
        }
    }

    // ---- promises 12, 13

    private static void ends() {
        Due.is("the least there can be", Due.book(0, Due.LOW, Due.LOW + 1).end(0), Due.LOW + 1);
        Due.is("the greatest there can be", Due.book(47, Due.LOW, Due.HIGH).end(47), Due.HIGH);
        SpanBook x = Due.book(20, 0, 1, 7, -10, 11);
        Due.is("with those BELOW", x.end(20), 11);
        x.drop(7);
        Due.is("no more", x.end(20), 1);
        x.undo();
        Due.is("again", x.end(20), 11);
        x.move(7, -100);
        Due.is("moved", x.end(20), 1);
        SpanBook chain = new SpanBook();
        int[] keys = byWeight();
        for (int i = 0; i < 48; i++) {
            chain.put(keys[i], i, 100 + i);
        }
        Due.is("48 deep", chain.end(20), 147);
    }

    private static void endLeast() {
        Refused.badAsLeastBeyond(0, 0, 47, "end", 0);
        Refused.notThere(Due.LEAST, "end");
    }

    private static void looks() {
        Due.is("no SPANS", new SpanBook().looks(0, 1), 0);
        Due.is("all 48", Due.all(0, 0, 1, 0).looks(Due.LOW, Due.HIGH), 48);
        SpanBook far = Due.book(20, Due.LOW, Due.LOW + 1, 7, Due.HIGH - 1, Due.HIGH);
        Due.is("the first point of THE RANGE", far.looks(Due.LOW, Due.LOW + 1), 2);
        Due.is("the last point of THE RANGE", far.looks(Due.HIGH - 1, Due.HIGH), 2);
        SpanBook chain = new SpanBook();
        int[] keys = byWeight();
        for (int i = 0; i < 48; i++) {
            chain.put(keys[i], i, 100);
        }
        int[][] due = {{-5, 0, 1}, {-5, 1, 2}, {-5, 47, 48}, {-5, 46, 47}, {99, 100, 48}, {100, 101, 1}};
        for (int[] row : due) {
            String text = Call.text("looks", Arrays.copyOf(row, 2));
            Due.is("48 deep, " + text, chain.looks(row[0], row[1]), row[2]);
        }
    }
}
