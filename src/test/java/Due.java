/** Counts answers, and prints each that is not the one that is due. */
final class Due {
    static final int NONE = -1, BAD = -2, NOT = -3, FAR = -4;
    static final int NULL = -11, INDEX = -12, CAST = -13, STORE = -14, SIZE = -15;
    static final int LEAST = Integer.MIN_VALUE, GREATEST = Integer.MAX_VALUE;
    static final int LOW = -1000000000, HIGH = 1000000000;

    private static int right = 0;
    private static int wrong = 0;
    /** What is tested just now: it goes ahead of each wrong answer. */
    private static String about = "";

    private Due() {
    }

    static void about(String what) {
        about = what;
    }

    static void is(String call, long got, long want) {
        holds(call + " answered " + got + ", due is " + want, got == want);
    }

    static void holds(String what, boolean held) {
        if (held) {
            right++;
        } else {
            wrong++;
            System.out.println(about + what);
        }
    }

    static int wrongs() {
        return wrong;
    }

    static int answers() {
        return right + wrong;
    }

    static void finish(String name) {
        System.out.println(name + ": " + right + " answers as due, " + wrong + " not");
        if (wrong != 0 || right == 0) {
            System.exit(1);
        }
    }

    /** A book of spans, told as key, from, to, and so on. */
    static SpanBook book(int... numbers) {
        SpanBook x = new SpanBook();
        for (int i = 0; i + 2 < numbers.length; i += 3) {
            is("put(" + numbers[i] + ", ..)", x.put(numbers[i], numbers[i + 1], numbers[i + 2]), i / 3 + 1);
        }
        return x;
    }

    /** A book of all 48 keys: key k goes from FROM and k steps to TO and k steps. */
    static SpanBook all(int from, int fromStep, int to, int toStep) {
        SpanBook x = new SpanBook();
        for (int key = 0; key < 48; key++) {
            is("put(" + key + ", ..)", x.put(key, from + key * fromStep, to + key * toStep), key + 1);
        }
        return x;
    }

    /** A sheet becomes a row of these items. */
    static void row(SpanBook x, int s, int form, int... items) {
        is("sheet(" + s + ", ..)", x.sheet(s, form, items.length), items.length);
        for (int i = 0; i < items.length; i++) {
            is("lay(" + s + ", ..)", x.lay(s, form, i, items[i]), 1);
        }
    }

    /** What stands in a sheet, from item 0 on. */
    static void isRow(String call, SpanBook x, int s, int form, int... items) {
        for (int i = 0; i < items.length; i++) {
            is(call + ", item " + i, x.get(s, form, i), items[i]);
        }
    }
}
