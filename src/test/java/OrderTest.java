/** Promises 8 to 13: rank, ranked, root, tree, end, looks. */
public final class OrderTest {
    public static void main(String[] args) {
        rank();
        ranked();
        root();
        tree();
        chain();
        end();
        looks();
        Due.finish("OrderTest");
    }

    private static void rank() {
        SpanBook x = Due.book(9, 5, 7, 8, 5, 6, 7, 5, 7, 6, -1, 100, 5, 5, 7);
        Due.is("8: by FROM", x.rank(6), 0);
        Due.is("8: of like ones by TO", x.rank(8), 1);
        Due.is("8: of like ones by KEY", x.rank(5), 2);
        Due.is("8: of like ones by KEY", x.rank(7), 3);
        Due.is("8: of like ones by KEY", x.rank(9), 4);
        Due.is("8: none", x.rank(0), Due.NOT);
        Due.is("8: key -1", x.rank(-1), Due.BAD);
        Due.is("8: key 48", x.rank(48), Due.BAD);
        Due.is("8: after move", x.move(6, 7), 1);
        Due.is("8: after move", x.rank(6), 4);
        Due.is("8: after move", x.rank(9), 3);
        SpanBook far = Due.book(1, Due.HIGH - 1, Due.HIGH, 2, Due.LOW, Due.LOW + 1);
        Due.is("8: far apart", far.rank(1), 1);
        Due.is("8: far apart", far.rank(2), 0);
    }

    private static void ranked() {
        SpanBook x = Due.book(9, 5, 7, 8, 5, 6, 7, 5, 7);
        Due.is("9: first", x.ranked(0), 8);
        Due.is("9: second", x.ranked(1), 7);
        Due.is("9: third", x.ranked(2), 9);
        Due.is("9: none", x.ranked(3), Due.NONE);
        Due.is("9: none", x.ranked(47), Due.NONE);
        Due.is("9: 48", x.ranked(48), Due.BAD);
        Due.is("9: -1", x.ranked(-1), Due.BAD);
        SpanBook all = new SpanBook();
        for (int key = 0; key < 48; key++) {
            all.put(key, -key, -key + 1);
        }
        for (int rank = 0; rank < 48; rank++) {
            Due.is("9: of all", all.ranked(rank), 47 - rank);
            Due.is("8: of all", all.rank(rank), 47 - rank);
        }
    }

    /** Weights: 1 has 15470, 3 has 30940, 7 has 61880, 20 has 64131, 12 has 2251. */
    private static void root() {
        SpanBook x = new SpanBook();
        Due.is("10: none", x.root(), Due.NONE);
        x.put(12, 0, 1);
        Due.is("10: one", x.root(), 12);
        x.put(1, 5, 6);
        Due.is("10: heavier", x.root(), 1);
        x.put(3, -5, 6);
        Due.is("10: heavier", x.root(), 3);
        x.put(20, 2, 3);
        Due.is("10: heavier", x.root(), 20);
        x.put(7, 1, 3);
        Due.is("10: lighter", x.root(), 20);
        x.move(20, 500);
        Due.is("10: wherever it is", x.root(), 20);
        x.drop(20);
        Due.is("10: the next", x.root(), 7);
        x.undo();
        Due.is("10: undone", x.root(), 20);
    }

    private static void tree() {
        SpanBook x = Due.book(12, 0, 1, 1, 5, 6, 3, -5, 6, 20, 2, 3, 7, 8, 9);
        // in ORDER 3 12 20 1 7: 20 is ROOT, 3 its LEFT with 12 as RIGHT, 7 its RIGHT with 1 as LEFT
        int[][] rows = {
            {20, Due.NONE, 3, 7, 0, 5, 3}, {3, 20, Due.NONE, 12, 1, 2, 2}, {12, 3, Due.NONE, Due.NONE, 2, 1, 1},
            {7, 20, 1, Due.NONE, 1, 2, 2}, {1, 7, Due.NONE, Due.NONE, 2, 1, 1}};
        for (int[] row : rows) {
            for (int what = 0; what <= 5; what++) {
                Due.is("11: tree(" + row[0] + ", " + what + ")", x.tree(row[0], what), row[what + 1]);
            }
        }
        Due.is("11: key -1", x.tree(-1, 0), Due.BAD);
        Due.is("11: key 48", x.tree(48, 0), Due.BAD);
        Due.is("11: what -1", x.tree(20, -1), Due.BAD);
        Due.is("11: what 6", x.tree(20, 6), Due.BAD);
        Due.is("11: BAD ahead of NOT", x.tree(0, 6), Due.BAD);
        Due.is("11: none", x.tree(0, 5), Due.NOT);
    }

    /** The deepest tree there can be: each lighter one stands behind all heavier ones. */
    private static void chain() {
        Integer[] keys = new Integer[48];
        for (int key = 0; key < 48; key++) {
            keys[key] = key;
        }
        java.util.Arrays.sort(keys, (p, q) -> Integer.compare((q + 1) * 40503 % 65536, (p + 1) * 40503 % 65536));
        SpanBook x = new SpanBook();
        for (int i = 0; i < 48; i++) {
            x.put(keys[i], i, 1000 - i);
        }
        for (int i = 0; i < 48; i++) {
            Due.is("11: chain, above", x.tree(keys[i], 0), i == 0 ? Due.NONE : keys[i - 1]);
            Due.is("11: chain, LEFT", x.tree(keys[i], 1), Due.NONE);
            Due.is("11: chain, RIGHT", x.tree(keys[i], 2), i == 47 ? Due.NONE : keys[i + 1]);
            Due.is("11: chain, how many above", x.tree(keys[i], 3), i);
            Due.is("11: chain, members", x.tree(keys[i], 4), 48 - i);
            Due.is("11: chain, down", x.tree(keys[i], 5), 48 - i);
            Due.is("12: chain", x.end(keys[i]), 1000 - i);
        }
        Due.is("34: chain", x.count(2), 48);
        Due.is("13: chain", x.looks(20, 21), 22);
        Due.is("13: chain", x.looks(975, 976), 25);
    }

    private static void end() {
        SpanBook x = Due.book(12, 0, 100, 1, 5, 6, 3, -5, 6, 20, 2, 3, 7, 8, 9);
        Due.is("12: of one BELOW", x.end(20), 100);
        Due.is("12: of its RIGHT", x.end(3), 100);
        Due.is("12: its own", x.end(12), 100);
        Due.is("12: its own", x.end(7), 9);
        Due.is("12: its own", x.end(1), 6);
        Due.is("12: none", x.end(0), Due.LEAST);
        Due.is("12: key -1", x.end(-1), Due.LEAST);
        Due.is("12: key 48", x.end(48), Due.LEAST);
        Due.is("12: dropped", x.drop(12), 4);
        Due.is("12: dropped", x.end(3), 6);
        Due.is("12: dropped", x.end(20), 9);
        Due.is("12: below 0", Due.book(4, -9, -8).end(4), -8);
    }

    private static void looks() {
        SpanBook x = Due.book(12, 0, 1, 1, 5, 6, 3, -5, 6, 20, 2, 3, 7, 8, 9);
        Due.is("13: ROOT always", x.looks(9, 10), 1);
        Due.is("13: END above a", x.looks(8, 10), 2);
        Due.is("13: FROM of ROOT less than b", x.looks(-9, 2), 3);
        Due.is("13: FROM of ROOT less than b", x.looks(-9, 3), 5);
        Due.is("13: RIGHT without points", x.looks(-9, -5), 2);
        Due.is("13: END of RIGHT is not above a", x.looks(1, 2), 2);
        Due.is("13: END of RIGHT is above a", x.looks(0, 2), 3);
        Due.is("13: END of LEFT", x.looks(6, 7), 2);
        Due.is("13: END of LEFT", x.looks(5, 7), 4);
        Due.is("13: a is b", x.looks(5, 5), Due.BAD);
        Due.is("13: turned", x.looks(6, 5), Due.BAD);
        Due.is("13: a out", x.looks(Due.LOW - 1, 5), Due.BAD);
        Due.is("13: b out", x.looks(5, Due.HIGH + 1), Due.BAD);
        Due.is("13: all", x.looks(Due.LOW, Due.HIGH), 5);
        Due.is("13: without SPANS", new SpanBook().looks(0, 1), 0);
        Due.is("13: ROOT that does not MEET", Due.book(4, 0, 1).looks(5, 6), 1);
    }
}
