/** Promises 20 to 27: deep, point, room, keep, clashes, clash, alone, group. */
public final class RoomsTest {
    public static void main(String[] args) {
        deepAndPoint();
        firstAfterChange();
        room();
        keep();
        clashes();
        allClash();
        alone();
        group();
        Due.finish("RoomsTest");
    }

    private static void deepAndPoint() {
        SpanBook x = new SpanBook();
        Due.is("20: without SPANS", x.deep(), 0);
        Due.is("21: without SPANS", x.point(), Due.LEAST);
        x.put(0, 5, 10);
        Due.is("20: one", x.deep(), 1);
        Due.is("21: one", x.point(), 5);
        x.put(1, 10, 15);
        Due.is("20: touching", x.deep(), 1);
        Due.is("21: the least", x.point(), 5);
        x.put(2, 12, 14);
        Due.is("20: two", x.deep(), 2);
        Due.is("21: two", x.point(), 12);
        x.put(3, -20, -10);
        x.put(4, -20, -15);
        Due.is("20: two", x.deep(), 2);
        Due.is("21: the least of like ones", x.point(), -20);
        x.put(5, 12, 13);
        Due.is("20: three from one point on", x.deep(), 3);
        Due.is("21: three", x.point(), 12);
        x.put(6, Due.LOW, Due.HIGH);
        Due.is("20: four", x.deep(), 4);
        x.drop(5);
        Due.is("20: three", x.deep(), 3);
        Due.is("21: three", x.point(), -20);
    }

    /** A call that comes first after a change must not answer from before it. */
    private static void firstAfterChange() {
        Due.is("20: first", Due.book(0, 5, 10).deep(), 1);
        Due.is("21: first", Due.book(0, 5, 10).point(), 5);
        Due.is("22: first", Due.book(0, 5, 10).room(Due.NONE), 1);
        Due.is("23: first", Due.book(0, 5, 10).keep(0), 0);
        Due.is("24: first", Due.book(0, 5, 10, 1, 5, 6).clashes(), 1);
        Due.is("25: first", Due.book(0, 5, 10, 1, 5, 6).clash(0, 0), 1);
        Due.is("26: first", Due.book(0, 5, 10).alone(), 1);
        Due.is("27: first", Due.book(0, 5, 10).group(0, 1), 1);
        Due.is("10: first", Due.book(0, 5, 10).root(), 0);
        Due.is("11: first", Due.book(0, 5, 10).tree(0, 4), 1);
        Due.is("12: first", Due.book(0, 5, 10).end(0), 10);
        Due.is("13: first", Due.book(0, 5, 10).looks(0, 1), 1);
        Due.is("16: first", Due.book(0, 5, 10).taken(0, 9), 4);
        Due.is("17: first", Due.book(0, 5, 10).frees(0, 11), 2);
        Due.is("18: first", Due.book(0, 5, 10).free(0, 11, 0, 1), 5);
        Due.is("19: first", Due.book(0, 5, 10).place(6, 1, 0), 10);
        Due.is("34: first", Due.book(0, 5, 10).count(6), 1);
    }

    private static void room() {
        SpanBook x = Due.book(20, -40, -10, 2, -15, 60, 3, 0, 10, 7, 5, 15, 1, 8, 9, 12, 20, 30, 30, 30, 35);
        int[][] rooms = {{20, 0}, {2, 1}, {3, 0}, {7, 2}, {1, 3}, {12, 0}, {30, 0}};
        for (int[] pair : rooms) {
            Due.is("22: room(" + pair[0] + ")", x.room(pair[0]), pair[1]);
        }
        Due.is("22: in all", x.room(Due.NONE), 4);
        Due.is("22: none", x.room(0), Due.NOT);
        Due.is("22: key 48", x.room(48), Due.BAD);
        Due.is("22: key -2", x.room(-2), Due.BAD);
        Due.is("22: without SPANS", new SpanBook().room(Due.NONE), 0);
        SpanBook y = Due.book(0, 0, 3, 1, 1, 9, 2, 2, 5, 3, 3, 4, 4, 4, 8);
        Due.is("22: the least again", y.room(3), 0);
        Due.is("22: the least again", y.room(4), 0);
        Due.is("22: in all", y.room(Due.NONE), 3);
        SpanBook all = new SpanBook();
        for (int key = 0; key < 48; key++) {
            all.put(key, -key, 5);
        }
        Due.is("22: 48 rooms", all.room(Due.NONE), 48);
        Due.is("22: the last", all.room(0), 47);
        Due.is("20: 48", all.deep(), 48);
    }

    private static void keep() {
        SpanBook x = Due.book(20, -40, -10, 2, -15, 60, 3, 0, 10, 7, 5, 15, 1, 8, 9, 12, 20, 30, 30, 30, 35);
        int[] kept = {20, 1, 12, 30};
        Due.is("23: how many", x.keep(Due.NONE), 4);
        for (int i = 0; i < kept.length; i++) {
            Due.is("23: keep(" + i + ")", x.keep(i), kept[i]);
        }
        Due.is("23: none", x.keep(4), Due.NONE);
        Due.is("23: none", x.keep(47), Due.NONE);
        Due.is("23: 48", x.keep(48), Due.BAD);
        Due.is("23: -2", x.keep(-2), Due.BAD);
        Due.is("23: without SPANS", new SpanBook().keep(Due.NONE), 0);
        SpanBook like = Due.book(9, 3, 10, 4, 0, 10, 8, 0, 10);
        Due.is("23: of like TO by ORDER", like.keep(0), 4);
        Due.is("23: one of these", like.keep(Due.NONE), 1);
        Due.is("23: touching", Due.book(0, 0, 5, 1, 5, 6).keep(Due.NONE), 2);
    }

    private static void clashes() {
        SpanBook x = Due.book(20, -40, -10, 2, -15, 60, 3, 0, 10, 7, 5, 15, 1, 8, 9, 40, 100, 120, 41, 119, 130);
        int[][] due = {{20, 2, 5}, {2, 3, 10}, {2, 7, 10}, {2, 1, 1}, {3, 7, 5}, {3, 1, 1}, {7, 1, 1}, {40, 41, 1}};
        Due.is("24: how many", x.clashes(), due.length);
        for (int i = 0; i < due.length; i++) {
            for (int what = 0; what <= 2; what++) {
                Due.is("25: clash(" + i + ", " + what + ")", x.clash(i, what), due[i][what]);
            }
        }
        Due.is("25: none", x.clash(8, 0), Due.NONE);
        Due.is("25: none", x.clash(8, 2), Due.NONE);
        Due.is("25: none", x.clash(1127, 1), Due.NONE);
        Due.is("25: i -1", x.clash(-1, 0), Due.BAD);
        Due.is("25: i 1128", x.clash(1128, 0), Due.BAD);
        Due.is("25: what -1", x.clash(0, -1), Due.BAD);
        Due.is("25: what 3", x.clash(0, 3), Due.BAD);
        Due.is("24: without SPANS", new SpanBook().clashes(), 0);
        Due.is("24: touching", Due.book(0, 0, 5, 1, 5, 6).clashes(), 0);
        SpanBook wide = Due.book(0, Due.LOW, Due.HIGH, 1, Due.LOW, Due.HIGH);
        Due.is("25: all points", wide.clash(0, 2), 2000000000);
    }

    private static void allClash() {
        SpanBook x = new SpanBook();
        for (int key = 0; key < 48; key++) {
            x.put(key, 47 - key, 100);
        }
        Due.is("24: all", x.clashes(), 1128);
        Due.is("25: the first", x.clash(0, 0), 47);
        Due.is("25: the first", x.clash(0, 1), 46);
        Due.is("25: the 47th", x.clash(46, 1), 0);
        Due.is("25: the 48th", x.clash(47, 0), 46);
        Due.is("25: the last", x.clash(1127, 0), 1);
        Due.is("25: the last", x.clash(1127, 1), 0);
        Due.is("25: the last", x.clash(1127, 2), 53);
    }

    private static void alone() {
        SpanBook x = new SpanBook();
        Due.is("26: without SPANS", x.alone(), 0);
        x.put(47, 0, 5);
        Due.is("26: the last key", x.alone(), 1L << 47);
        x.put(0, 5, 6);
        Due.is("26: touching", x.alone(), (1L << 47) | 1);
        x.put(31, 4, 5);
        Due.is("26: not 47", x.alone(), 1);
        x.put(32, 50, 51);
        Due.is("26: 32", x.alone(), (1L << 32) | 1);
        x.move(31, 50);
        Due.is("26: all", x.alone(), (1L << 47) | (1L << 32) | (1L << 31) | 1);
    }

    private static void group() {
        SpanBook x = Due.book(9, 0, 10, 8, 9, 12, 7, 11, 20, 30, 20, 21, 3, 40, 90, 5, 50, 51, 4, 89, 95, 2, 93, 94);
        Due.is("27: in all", x.group(Due.NONE, 0), 3);
        Due.is("27: in all", x.group(Due.NONE, 1), 3);
        int[][] due = {{9, 7, 3}, {8, 7, 3}, {7, 7, 3}, {30, 30, 1}, {3, 2, 4}, {5, 2, 4}, {4, 2, 4}, {2, 2, 4}};
        for (int[] row : due) {
            Due.is("27: least key of " + row[0], x.group(row[0], 0), row[1]);
            Due.is("27: how many with " + row[0], x.group(row[0], 1), row[2]);
        }
        Due.is("27: none", x.group(0, 0), Due.NOT);
        Due.is("27: key 48", x.group(48, 0), Due.BAD);
        Due.is("27: key -2", x.group(-2, 0), Due.BAD);
        Due.is("27: what 2", x.group(9, 2), Due.BAD);
        Due.is("27: what -1", x.group(9, -1), Due.BAD);
        Due.is("27: what 2 of all", x.group(Due.NONE, 2), Due.BAD);
        Due.is("27: BAD ahead of NOT", x.group(0, 2), Due.BAD);
        Due.is("27: without SPANS", new SpanBook().group(Due.NONE, 0), 0);
        x.drop(8);
        Due.is("27: two more", x.group(Due.NONE, 0), 4);
        Due.is("27: 9 by itself", x.group(9, 1), 1);
        x.put(0, -5, 100);
        Due.is("27: all in one", x.group(30, 1), 8);
        Due.is("27: all in one", x.group(30, 0), 0);
    }
}
