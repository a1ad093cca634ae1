/** Counts answers, and prints each that is not the one that is due. */
final class Due {
    static final int NONE = -1, BAD = -2, NOT = -3, FAR = -4;
    static final int NULL = -11, INDEX = -12, CAST = -13, STORE = -14, SIZE = -15;
    static final int LEAST = Integer.MIN_VALUE;
    static final int LOW = -1000000000, HIGH = 1000000000;

    private static int right = 0;
    private static int wrong = 0;

    private Due() {
    }

    static void is(String call, long got, long want) {
        if (got == want) {
            right++;
        } else {
            wrong++;
            System.out.println(call + " answered " + got + ", due is " + want);
        }
    }

    static void holds(String what, boolean held) {
        if (held) {
            right++;
        } else {
            wrong++;
            System.out.println(what);
        }
    }

    static int wrongs() {
        return wrong;
    }

    static void finish(String name) {
        System.out.println(name + ": " + right + " answers as due, " + wrong + " not");
        if (wrong != 0 || right == 0) {
            System.exit(1);
        }
    }

    /** A book of spans, told as key, from, to, and so on. */
    static SpanBook book(int... numbers) {
        SpanBook x = new SpanBook();
        for (int i = 0; i + 2 < numbers.length; i += 3) {
            is("put(" + numbers[i] + ", ..)", x.put(numbers[i], numbers[i + 1], numbers[i + 2]), i / 3 + 1);
        }
        return x;
    }
}
