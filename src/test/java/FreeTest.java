/** Promises 14 to 19: meets, holds, taken, frees, free, place. */
public final class FreeTest {
    public static void main(String[] args) {
        meets();
        holds();
        taken();
        frees();
        free();
        mostFrees();
        placeNext();
        placeLast();
        placeNearest();
        placeEdges();
        Due.finish("FreeTest");
    }

    private static SpanBook some() {
        return Due.book(3, 0, 10, 7, 5, 15, 12, 20, 30, 30, 30, 35, 20, -40, -10);
    }

    private static void meets() {
        SpanBook x = some();
        Due.is("14: how many", x.meets(0, 10, Due.NONE), 2);
        Due.is("14: first", x.meets(0, 10, 0), 3);
        Due.is("14: second", x.meets(0, 10, 1), 7);
        Due.is("14: none", x.meets(0, 10, 2), Due.NONE);
        Due.is("14: none", x.meets(0, 10, 47), Due.NONE);
        Due.is("14: TO is not held", x.meets(15, 20, Due.NONE), 0);
        Due.is("14: TO less 1 is", x.meets(14, 20, Due.NONE), 1);
        Due.is("14: b is not in it", x.meets(15, 21, Due.NONE), 1);
        Due.is("14: within one", x.meets(25, 26, 0), 12);
        Due.is("14: in ORDER", x.meets(-1000, 1000, 0), 20);
        Due.is("14: in ORDER", x.meets(-1000, 1000, 4), 30);
        Due.is("14: all", x.meets(Due.LOW, Due.HIGH, Due.NONE), 5);
        Due.is("14: i 48", x.meets(0, 10, 48), Due.BAD);
        Due.is("14: i -2", x.meets(0, 10, -2), Due.BAD);
        Due.is("14: a is b", x.meets(5, 5, Due.NONE), Due.BAD);
        Due.is("14: turned", x.meets(6, 5, Due.NONE), Due.BAD);
        Due.is("14: a out", x.meets(Due.LOW - 1, 5, Due.NONE), Due.BAD);
        Due.is("14: b out", x.meets(0, Due.HIGH + 1, Due.NONE), Due.BAD);
    }

    private static void holds() {
        SpanBook x = some();
        Due.is("15: FROM", x.holds(0, Due.NONE), 1);
        Due.is("15: ahead of FROM", x.holds(-1, Due.NONE), 0);
        Due.is("15: two", x.holds(9, Due.NONE), 2);
        Due.is("15: TO is not held", x.holds(10, Due.NONE), 1);
        Due.is("15: one ends, one begins", x.holds(30, Due.NONE), 1);
        Due.is("15: one ends, one begins", x.holds(30, 0), 30);
        Due.is("15: first", x.holds(9, 0), 3);
        Due.is("15: second", x.holds(9, 1), 7);
        Due.is("15: none", x.holds(9, 2), Due.NONE);
        Due.is("15: not who begins behind it", x.holds(4, 1), Due.NONE);
        Due.is("15: not who ended at it", x.holds(10, 0), 7);
        Due.is("15: i 47", x.holds(9, 47), Due.NONE);
        Due.is("15: i 48", x.holds(9, 48), Due.BAD);
        Due.is("15: i -2", x.holds(9, -2), Due.BAD);
        Due.is("15: the first point", x.holds(Due.LOW, Due.NONE), 0);
        Due.is("15: the last point", x.holds(Due.HIGH, Due.NONE), 0);
        Due.is("15: below", x.holds(Due.LOW - 1, Due.NONE), Due.BAD);
        Due.is("15: above", x.holds(Due.HIGH + 1, Due.NONE), Due.BAD);
        Due.is("15: greatest int", x.holds(Integer.MAX_VALUE, Due.NONE), Due.BAD);
        SpanBook all = Due.book(4, Due.LOW, Due.HIGH);
        Due.is("15: the first point", all.holds(Due.LOW, 0), 4);
        Due.is("15: the last but one", all.holds(Due.HIGH - 1, 0), 4);
        Due.is("15: the last point", all.holds(Due.HIGH, 0), Due.NONE);
    }

    private static void taken() {
        SpanBook x = some();
        Due.is("16: all", x.taken(-50, 50), 60);
        Due.is("16: whole range", x.taken(Due.LOW, Due.HIGH), 60);
        Due.is("16: each point once", x.taken(0, 15), 15);
        Due.is("16: cut", x.taken(-15, 3), 8);
        Due.is("16: within", x.taken(6, 8), 2);
        Due.is("16: none", x.taken(15, 20), 0);
        Due.is("16: a is b", x.taken(0, 0), Due.BAD);
        Due.is("16: turned", x.taken(1, 0), Due.BAD);
        Due.is("16: a out", x.taken(Due.LOW - 1, 0), Due.BAD);
        Due.is("16: b out", x.taken(0, Due.HIGH + 1), Due.BAD);
        SpanBook all = Due.book(4, Due.LOW, Due.HIGH);
        Due.is("16: two thousand million", all.taken(Due.LOW, Due.HIGH), 2000000000);
        Due.is("16: no SPANS", new SpanBook().taken(Due.LOW, Due.HIGH), 0);
    }

    private static void frees() {
        SpanBook x = some();
        Due.is("17: all", x.frees(-50, 50), 4);
        Due.is("17: no part at the edges", x.frees(-40, 35), 2);
        Due.is("17: parts at the edges", x.frees(-41, 36), 4);
        Due.is("17: spans that touch leave none", x.frees(25, 33), 0);
        Due.is("17: within a free one", x.frees(16, 18), 1);
        Due.is("17: no SPANS", new SpanBook().frees(Due.LOW, Due.HIGH), 1);
        Due.is("17: all taken", Due.book(4, Due.LOW, Due.HIGH).frees(Due.LOW, Due.HIGH), 0);
        Due.is("17: a is b", x.frees(0, 0), Due.BAD);
        Due.is("17: turned", x.frees(1, 0), Due.BAD);
        Due.is("17: a out", x.frees(Due.LOW - 1, 0), Due.BAD);
        Due.is("17: b out", x.frees(0, Due.HIGH + 1), Due.BAD);
    }

    private static void free() {
        SpanBook x = some();
        int[][] parts = {{-50, -40}, {-10, 0}, {15, 20}, {35, 50}};
        for (int i = 0; i < parts.length; i++) {
            Due.is("18: begins", x.free(-50, 50, i, 0), parts[i][0]);
            Due.is("18: behind", x.free(-50, 50, i, 1), parts[i][1]);
        }
        Due.is("18: none", x.free(-50, 50, 4, 0), Due.LEAST);
        Due.is("18: none", x.free(-50, 50, 48, 1), Due.LEAST);
        Due.is("18: cut ahead", x.free(-3, 17, 0, 0), -3);
        Due.is("18: cut behind", x.free(-3, 17, 1, 1), 17);
        Due.is("18: cut on both sides", x.free(16, 18, 0, 0), 16);
        Due.is("18: cut on both sides", x.free(16, 18, 0, 1), 18);
        Due.is("18: whole range", x.free(Due.LOW, Due.HIGH, 0, 0), Due.LOW);
        Due.is("18: whole range", x.free(Due.LOW, Due.HIGH, 3, 1), Due.HIGH);
        Due.is("18: i -1", x.free(-50, 50, -1, 0), Due.LEAST);
        Due.is("18: i 49", x.free(-50, 50, 49, 0), Due.LEAST);
        Due.is("18: what -1", x.free(-50, 50, 0, -1), Due.LEAST);
        Due.is("18: what 2", x.free(-50, 50, 0, 2), Due.LEAST);
        Due.is("18: a is b", x.free(0, 0, 0, 0), Due.LEAST);
        Due.is("18: a out", x.free(Due.LOW - 1, 0, 0, 0), Due.LEAST);
        Due.is("18: b out", x.free(-50, Due.HIGH + 1, 0, 0), Due.LEAST);
    }

    private static void mostFrees() {
        SpanBook x = new SpanBook();
        for (int key = 0; key < 48; key++) {
            x.put(key, 10 * key, 10 * key + 1);
        }
        Due.is("17: 49", x.frees(-5, 500), 49);
        Due.is("18: the last", x.free(-5, 500, 48, 0), 471);
        Due.is("18: the last", x.free(-5, 500, 48, 1), 500);
        Due.is("16: 48", x.taken(-5, 500), 48);
        Due.is("19: between", x.place(3, 9, 0), 11);
    }

    private static void placeNext() {
        SpanBook x = some();
        Due.is("19: here", x.place(15, 5, 0), 15);
        Due.is("19: behind", x.place(0, 5, 0), 15);
        Due.is("19: too small", x.place(0, 6, 0), 35);
        Due.is("19: too small from here on", x.place(16, 5, 0), 35);
        Due.is("19: ahead of all", x.place(-60, 20, 0), -60);
        Due.is("19: ahead of all", x.place(-59, 20, 0), 35);
        Due.is("19: to the end", x.place(100, 999999900, 0), 100);
        Due.is("19: beyond the end", x.place(101, 999999900, 0), Due.LEAST);
    }

    private static void placeLast() {
        SpanBook x = some();
        Due.is("19: here", x.place(20, 5, 1), 15);
        Due.is("19: ahead", x.place(35, 5, 1), 15);
        Due.is("19: too small", x.place(35, 6, 1), -6);
        Due.is("19: too small up to here", x.place(19, 5, 1), -5);
        Due.is("19: up to here", x.place(19, 4, 1), 15);
        Due.is("19: behind all", x.place(90, 55, 1), 35);
        Due.is("19: behind all", x.place(89, 55, 1), -95);
        Due.is("19: to the beginning", x.place(0, 999999960, 1), Due.LOW);
        Due.is("19: beyond the beginning", x.place(0, 999999961, 1), Due.LEAST);
    }

    private static void placeNearest() {
        SpanBook x = some();
        Due.is("19: here", x.place(16, 3, 2), 16);
        Due.is("19: a little ahead", x.place(18, 3, 2), 17);
        Due.is("19: ahead", x.place(24, 3, 2), 17);
        Due.is("19: of like ones the less", x.place(26, 3, 2), 17);
        Due.is("19: behind", x.place(27, 3, 2), 35);
        Due.is("19: only behind", x.place(0, 999999961, 2), 35);
        SpanBook end = Due.book(4, -50, Due.HIGH);
        Due.is("19: only ahead", end.place(Due.HIGH, 10, 2), -60);
        Due.is("19: none", Due.book(4, Due.LOW, Due.HIGH).place(0, 1, 2), Due.LEAST);
        SpanBook wide = Due.book(4, Due.LOW + 1, Due.HIGH - 1);
        Due.is("19: far apart", wide.place(0, 1, 2), Due.HIGH - 1);
        Due.is("19: far apart", wide.place(-1, 1, 2), Due.LOW);
        SpanBook even = Due.book(4, Due.LOW + 2, Due.HIGH - 1);
        Due.is("19: far apart, alike", even.place(0, 1, 2), Due.LOW + 1);
        Due.is("19: far apart, from the end", even.place(Due.HIGH, 2, 2), Due.LOW);
    }

    private static void placeEdges() {
        SpanBook x = new SpanBook();
        Due.is("19: the longest", x.place(Due.LOW, Due.HIGH, 0), Due.LOW);
        Due.is("19: the longest", x.place(Due.HIGH, Due.HIGH, 1), 0);
        Due.is("19: the longest", x.place(Due.HIGH, Due.HIGH, 2), 0);
        Due.is("19: the longest", x.place(Due.LOW, Due.HIGH, 2), Due.LOW);
        Due.is("19: no room behind", x.place(Due.HIGH, 1, 0), Due.LEAST);
        Due.is("19: no room ahead", x.place(Due.LOW, 1, 1), Due.LEAST);
        Due.is("19: size 0", x.place(0, 0, 0), Due.LEAST);
        Due.is("19: size -1", x.place(0, -1, 1), Due.LEAST);
        Due.is("19: size too great", x.place(Due.LOW, Due.HIGH + 1, 0), Due.LEAST);
        Due.is("19: size greatest", x.place(0, Integer.MAX_VALUE, 2), Due.LEAST);
        Due.is("19: point below", x.place(Due.LOW - 1, 1, 0), Due.LEAST);
        Due.is("19: point above", x.place(Due.HIGH + 1, 1, 1), Due.LEAST);
        Due.is("19: what -1", x.place(0, 1, -1), Due.LEAST);
        Due.is("19: what 3", x.place(0, 1, 3), Due.LEAST);
    }
}
