/** Promises 28 to 34: sheet, lose, lay, get, copy, write, count (digest stands in ModelTest). */
public final class SheetsTest {
    public static void main(String[] args) {
        sheet();
        lose();
        lay();
        layRefusals();
        get();
        copy();
        copyRefusals();
        write();
        count();
        findings();
        digest();
        Due.finish("SheetsTest");
    }

    private static void sheet() {
        SpanBook x = new SpanBook();
        Due.is("28: bytes", x.sheet(0, 0, 60), 60);
        Due.is("28: shorts", x.sheet(1, 1, 5), 5);
        Due.is("28: ints, none", x.sheet(3, 2, 0), 0);
        Due.is("28: 0 at first", x.get(0, 0, 59), 0);
        Due.is("28: lay", x.lay(0, 0, 59, 7), 1);
        Due.is("28: lay", x.lay(0, 0, 0, 7), 1);
        Due.is("28: a new row", x.sheet(0, 0, 60), 60);
        Due.is("28: 0 at first", x.get(0, 0, 0), 0);
        Due.is("28: 0 at first", x.get(0, 0, 59), 0);
        Due.is("28: another form", x.sheet(0, 2, 3), 3);
        Due.is("28: another form", x.get(0, 2, 2), 0);
        Due.is("28: -1", x.sheet(-1, 0, 1), Due.BAD);
        Due.is("28: 4", x.sheet(4, 0, 1), Due.BAD);
        Due.is("28: form -1", x.sheet(0, -1, 1), Due.BAD);
        Due.is("28: form 3", x.sheet(0, 3, 1), Due.BAD);
        Due.is("28: 61", x.sheet(0, 0, 61), Due.BAD);
        Due.is("28: greatest", x.sheet(0, 0, Integer.MAX_VALUE), Due.BAD);
        Due.is("28: BAD ahead of SIZE", x.sheet(4, 0, -1), Due.BAD);
        Due.is("28: BAD ahead of SIZE", x.sheet(0, 3, -1), Due.BAD);
        Due.is("28: no FINDING yet", x.count(8), 0);
        Due.is("28: SIZE", x.sheet(0, 0, -1), Due.SIZE);
        Due.is("28: SIZE", x.sheet(0, 0, Due.LEAST), Due.SIZE);
        Due.is("28: FINDING", x.count(8), 5);
        Due.is("28: SIZE changes nothing", x.lose(0), 3);
        Due.is("28: SIZE makes none", x.sheet(2, 0, -1), Due.SIZE);
        Due.is("28: SIZE makes none", x.lose(2), Due.NULL);
    }

    private static void lose() {
        SpanBook x = new SpanBook();
        x.sheet(0, 0, 7);
        x.sheet(3, 2, 0);
        Due.is("29: seven", x.lose(0), 7);
        Due.is("29: again", x.lose(0), Due.NULL);
        Due.is("29: none", x.lose(3), 0);
        Due.is("29: LOST", x.lose(3), Due.NULL);
        Due.is("29: FINDING", x.count(8), 1);
        Due.is("29: -1", x.lose(-1), Due.BAD);
        Due.is("29: 4", x.lose(4), Due.BAD);
        Due.is("29: made again", x.sheet(0, 1, 2), 2);
        Due.is("29: made again", x.get(0, 1, 1), 0);
    }

    private static void lay() {
        SpanBook x = new SpanBook();
        int[][] rows = {
            {0, 300, 44}, {0, 128, -128}, {0, 255, -1}, {0, -129, 127}, {0, -128, -128}, {0, Due.LEAST, 0},
            {1, 40000, -25536}, {1, 32768, -32768}, {1, 65536, 0}, {1, -32769, 32767}, {1, 300, 300},
            {2, 70000, 70000}, {2, Due.LEAST, Due.LEAST}, {2, Integer.MAX_VALUE, Integer.MAX_VALUE}};
        for (int form = 0; form <= 2; form++) {
            x.sheet(form, form, 4);
        }
        for (int[] row : rows) {
            Due.is("30: lay", x.lay(row[0], row[0], 3, row[1]), 1);
            Due.is("31: of " + row[1], x.get(row[0], row[0], 3), row[2]);
            Due.is("31: its neighbour", x.get(row[0], row[0], 2), 0);
        }
        Due.is("30: first", x.lay(0, 0, 0, 9), 1);
        Due.is("31: first", x.get(0, 0, 0), 9);
    }

    private static void layRefusals() {
        SpanBook x = new SpanBook();
        x.sheet(0, 1, 4);
        Due.is("30: sheet -1", x.lay(-1, 1, 0, 0), Due.BAD);
        Due.is("30: sheet 4", x.lay(4, 1, 0, 0), Due.BAD);
        Due.is("30: form -1", x.lay(0, -1, 0, 0), Due.BAD);
        Due.is("30: form 3", x.lay(0, 3, 0, 0), Due.BAD);
        Due.is("30: BAD ahead of NULL", x.lay(1, 3, 0, 0), Due.BAD);
        Due.is("30: no FINDING", x.count(8), 0);
        Due.is("30: NULL", x.lay(1, 0, 0, 0), Due.NULL);
        Due.is("30: NULL", x.count(8), 1);
        Due.is("30: CAST", x.lay(0, 0, 0, 5), Due.CAST);
        Due.is("30: CAST", x.count(8), 3);
        Due.is("30: INDEX", x.lay(0, 1, 4, 5), Due.INDEX);
        Due.is("30: INDEX", x.count(8), 2);
        Due.is("30: CAST ahead of INDEX", x.lay(0, 2, 4, 5), Due.CAST);
        Due.is("30: INDEX below", x.lay(0, 1, -1, 5), Due.INDEX);
        Due.is("30: INDEX least", x.lay(0, 1, Due.LEAST, 5), Due.INDEX);
        Due.is("30: INDEX greatest", x.lay(0, 1, Integer.MAX_VALUE, 5), Due.INDEX);
        Due.is("30: nothing changed", x.get(0, 1, 0), 0);
        x.sheet(0, 1, 0);
        Due.is("30: no items", x.lay(0, 1, 0, 5), Due.INDEX);
    }

    private static void get() {
        SpanBook x = new SpanBook();
        x.sheet(0, 1, 4);
        x.lay(0, 1, 2, -7);
        Due.is("31: item", x.get(0, 1, 2), -7);
        Due.is("31: sheet -1", x.get(-1, 1, 2), Due.LEAST);
        Due.is("31: sheet 4", x.get(4, 1, 2), Due.LEAST);
        Due.is("31: form 3", x.get(0, 3, 2), Due.LEAST);
        Due.is("31: form -1", x.get(1, -1, 2), Due.LEAST);
        Due.is("31: no FINDING", x.count(8), 0);
        Due.is("31: NULL", x.get(1, 0, 0), Due.LEAST);
        Due.is("31: NULL", x.count(8), 1);
        Due.is("31: CAST", x.get(0, 2, 9), Due.LEAST);
        Due.is("31: CAST", x.count(8), 3);
        Due.is("31: INDEX", x.get(0, 1, 4), Due.LEAST);
        Due.is("31: INDEX", x.count(8), 2);
        x.get(1, 0, 0);
        Due.is("31: INDEX below", x.get(0, 1, -1), Due.LEAST);
        Due.is("31: INDEX", x.count(8), 2);
    }

    private static SpanBook rows() {
        SpanBook x = new SpanBook();
        x.sheet(0, 2, 6);
        x.sheet(1, 2, 3);
        x.sheet(2, 0, 6);
        for (int i = 0; i < 6; i++) {
            x.lay(0, 2, i, 10 + i);
        }
        return x;
    }

    private static void copy() {
        SpanBook x = rows();
        Due.is("32: copy", x.copy(0, 4, 1, 1, 2), 1);
        Due.isRow("32: copy", x, 1, 2, 0, 14, 15);
        Due.isRow("32: the source stays", x, 0, 2, 10, 11, 12, 13, 14, 15);
        Due.is("32: none", x.copy(0, 6, 1, 3, 0), 1);
        Due.is("32: to the right, as they were", x.copy(0, 0, 0, 2, 4), 1);
        Due.isRow("32: to the right", x, 0, 2, 10, 11, 10, 11, 12, 13);
        Due.is("32: to the left, as they were", x.copy(0, 1, 0, 0, 5), 1);
        Due.isRow("32: to the left", x, 0, 2, 11, 10, 11, 12, 13, 13);
        Due.is("32: all", x.copy(0, 0, 0, 0, 6), 1);
        x.sheet(3, 0, 6);
        x.lay(2, 0, 0, -5);
        Due.is("32: bytes", x.copy(2, 0, 3, 5, 1), 1);
        Due.is("32: bytes", x.get(3, 0, 5), -5);
    }

    private static void copyRefusals() {
        SpanBook x = rows();
        int great = Integer.MAX_VALUE;
        int[][] calls = {
            {-1, 0, 0, 0, 1, Due.BAD}, {4, 0, 0, 0, 1, Due.BAD}, {0, 0, -1, 0, 1, Due.BAD}, {0, 0, 4, 0, 1, Due.BAD},
            {3, 0, 4, 0, 1, Due.BAD}, {4, 0, 3, 0, 1, Due.BAD},
            {3, 0, 0, 0, 1, Due.NULL}, {0, 0, 3, 0, 1, Due.NULL}, {0, -1, 3, 0, 1, Due.NULL}, {3, 0, 3, 0, 1, Due.NULL},
            {0, 0, 2, 0, 1, Due.STORE}, {2, 0, 0, 0, 0, Due.STORE}, {0, -1, 2, 0, 1, Due.STORE},
            {0, -1, 1, 0, 1, Due.INDEX}, {0, 0, 1, -1, 1, Due.INDEX}, {0, 0, 1, 0, -1, Due.INDEX},
            {0, 6, 1, 0, 1, Due.INDEX}, {0, 7, 1, 0, 0, Due.INDEX}, {0, 0, 1, 4, 0, Due.INDEX},
            {0, 0, 1, 3, 1, Due.INDEX}, {0, 0, 1, 0, 4, Due.INDEX}, {1, 0, 0, 0, 4, Due.INDEX},
            {0, 1, 0, 1, great, Due.INDEX}, {0, great, 1, 0, 1, Due.INDEX}, {0, 0, 1, great, 1, Due.INDEX},
            {0, great, 0, great, great, Due.INDEX}, {0, Due.LEAST, 1, 0, Due.LEAST, Due.INDEX}};
        int latest = 0;
        for (int[] c : calls) {
            Due.is("32: copy" + java.util.Arrays.toString(c), x.copy(c[0], c[1], c[2], c[3], c[4]), c[5]);
            latest = c[5] == Due.BAD ? latest : -10 - c[5];
            Due.is("32: FINDING", x.count(8), latest);
        }
        Due.isRow("32: nothing changed", x, 0, 2, 10, 11, 12, 13, 14, 15);
        Due.isRow("32: nothing changed", x, 1, 2, 0, 0, 0);
    }

    private static void write() {
        SpanBook x = Due.book(3, 0, 10, 7, 5, 15, 12, 20, 30, 47, -40, -10);
        x.sheet(0, 2, 6);
        x.lay(0, 2, 3, 99);
        Due.is("33: how many", x.write(0, 30, 0), 3);
        Due.isRow("33: in ORDER", x, 0, 2, 3, 7, 12, 99, 0, 0);
        Due.is("33: one", x.write(-11, 0, 0), 1);
        Due.isRow("33: the others stay", x, 0, 2, 47, 7, 12, 99);
        Due.is("33: none", x.write(15, 20, 0), 0);
        x.put(40, 100, 110);
        x.undo();
        Due.is("33: not who is gone", x.write(25, 200, 0), 1);
        x.sheet(1, 0, 2);
        Due.is("33: as many as items", x.write(Due.LOW, Due.HIGH, 1), 2);
        Due.is("33: bytes", x.get(1, 0, 0), 47);
        Due.is("33: bytes", x.get(1, 0, 1), 3);
        x.sheet(1, 1, 0);
        Due.is("33: no items", x.write(Due.LOW, Due.HIGH, 1), 0);
        Due.is("33: it is not DONE", x.count(1), 4);
        Due.is("33: a is b", x.write(0, 0, 0), Due.BAD);
        Due.is("33: turned", x.write(1, 0, 0), Due.BAD);
        Due.is("33: a out", x.write(Due.LOW - 1, 0, 0), Due.BAD);
        Due.is("33: b out", x.write(0, Due.HIGH + 1, 0), Due.BAD);
        Due.is("33: sheet -1", x.write(0, 1, -1), Due.BAD);
        Due.is("33: sheet 4", x.write(0, 1, 4), Due.BAD);
        Due.is("33: BAD ahead of NULL", x.write(1, 0, 3), Due.BAD);
        Due.is("33: no FINDING", x.count(8), 0);
        Due.is("33: NULL", x.write(0, 1, 3), Due.NULL);
        Due.is("33: FINDING", x.count(8), 1);
    }

    private static void count() {
        SpanBook x = Due.book(20, -40, -10, 2, -15, 60, 3, 0, 10, 7, 5, 15, 1, 8, 9, 40, 100, 120);
        x.move(40, 1);
        x.drop(2);
        x.lose(0);
        int[] due = {5, 8, 4, 3, 3, 3, 3, 3, 1};
        for (int what = 0; what < due.length; what++) {
            Due.is("34: count(" + what + ")", x.count(what), due[what]);
        }
        Due.is("34: -1", x.count(-1), Due.BAD);
        Due.is("34: 9", x.count(9), Due.BAD);
        Due.is("34: least", x.count(Due.LEAST), Due.BAD);
    }

    private static void findings() {
        SpanBook x = new SpanBook();
        x.sheet(0, 0, 1);
        x.sheet(1, 1, 1);
        x.lose(2);
        Due.is("34: NULL", x.count(8), 1);
        x.lay(0, 0, 1, 1);
        Due.is("34: INDEX", x.count(8), 2);
        x.lay(0, 1, 0, 1);
        Due.is("34: CAST", x.count(8), 3);
        x.copy(0, 0, 1, 0, 1);
        Due.is("34: STORE", x.count(8), 4);
        x.sheet(0, 0, -1);
        Due.is("34: SIZE", x.count(8), 5);
        x.put(0, 0, 1);
        x.lay(0, 0, 0, 1);
        x.undo();
        Due.is("34: the latest one stays", x.count(8), 5);
        x.drop(0);
        x.put(48, 0, 1);
        Due.is("34: BAD and NOT are no FINDINGS", x.count(8), 5);
    }

    private static void digest() {
        SpanBook x = new SpanBook();
        long none = 5031092426420773481L;
        Due.is("35: of no SPANS", x.digest(), none);
        x.sheet(0, 2, 5);
        x.lay(0, 2, 0, 3);
        x.lose(3);
        Due.is("35: without SHEETS and FINDINGS", x.digest(), none);
        Due.is("35: changes nothing", x.count(8), 1);
        x.put(0, 5, 6);
        Due.holds("35: with SPANS", x.digest() != none);
        x.drop(0);
        Due.holds("35: with DONE", x.digest() != none);
        x.undo();
        x.undo();
        Due.is("35: undone", x.digest(), none);
    }
}
