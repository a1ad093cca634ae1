import java.util.EnumMap;
import java.util.List;
import java.util.Map;

/** Refused calls: the answer, and that they change nothing (FINDINGS: nothing but count() 8). */
final class Refused {
    /** What a book of a kind shows that no refused call has been made on. */
    private static final Map<Kind, List<Long>> UNTOUCHED = new EnumMap<>(Map.of(
        Kind.NEW, Kind.seen(Kind.NEW.make()), Kind.SOME, Kind.seen(Kind.SOME.make()),
        Kind.FULL, Kind.seen(Kind.FULL.make())));

    private Refused() {
    }

    /** BAD, in each kind of book: it goes ahead of all that a book may refuse else. */
    static void bad(String name, int... numbers) {
        everywhere(Due.BAD, name, numbers);
    }

    /** BAD, where the least int stands for it. */
    static void badAsLeast(String name, int... numbers) {
        everywhere(Due.LEAST, name, numbers);
    }

    private static void everywhere(int answer, String name, int... numbers) {
        for (Kind kind : Kind.values()) {
            is(kind, answer, name, numbers);
        }
    }

    /** One number of a call, counted from 0, is below the least or above the greatest that is allowed. */
    static void badBeyond(int at, int least, int greatest, String name, int... numbers) {
        beyond(Due.BAD, at, least, greatest, name, numbers);
    }

    static void badAsLeastBeyond(int at, int least, int greatest, String name, int... numbers) {
        beyond(Due.LEAST, at, least, greatest, name, numbers);
    }

    private static void beyond(int answer, int at, int least, int greatest, String name, int... numbers) {
        for (int value : new int[] {least - 1, greatest + 1, Due.LEAST, Due.GREATEST}) {
            int[] changed = numbers.clone();
            changed[at] = value;
            everywhere(answer, name, changed);
        }
    }

    /** The calls of a stretch: a is b, a above b, either beyond THE RANGE; numbers 0 and 1 are a and b. */
    static void badStretches(int answer, String name, int... numbers) {
        int[][] stretches = {
            {5, 5}, {6, 5}, {Due.LOW, Due.LOW}, {Due.HIGH, Due.HIGH}, {Due.HIGH, Due.LOW},
            {Due.LOW - 1, 5}, {Due.LOW - 1, Due.LOW}, {5, Due.HIGH + 1}, {Due.HIGH, Due.HIGH + 1},
            {Due.LEAST, 5}, {5, Due.GREATEST}, {Due.LEAST, Due.GREATEST}, {Due.GREATEST, Due.LEAST}};
        for (int[] stretch : stretches) {
            int[] changed = numbers.clone();
            changed[0] = stretch[0];
            changed[1] = stretch[1];
            everywhere(answer, name, changed);
        }
    }

    /** A KEY that is not there, in a new book and beside others, with the numbers behind the KEY. */
    static void notThere(int answer, String name, int... more) {
        int[] numbers = new int[more.length + 1];
        System.arraycopy(more, 0, numbers, 1, more.length);
        for (int key : new int[] {0, 1, 8, 46, 47}) {
            numbers[0] = key;
            is(key == 0 || key == 47 ? Kind.NEW : Kind.SOME, answer, name, numbers);
        }
    }

    /** Refused without a FINDING: BAD, NOT, FAR, and the least int for BAD and NONE. */
    static void is(Kind kind, int answer, String name, int... numbers) {
        check(kind, answer, UNTOUCHED.get(kind).get(0), name, numbers);
    }

    static void found(Kind kind, int answer, String name, int... numbers) {
        check(kind, answer, -10 - answer, name, numbers);
    }

    /** A FINDING for which the least int stands: its number tells which. */
    static void foundAsLeast(Kind kind, int number, String name, int... numbers) {
        check(kind, Due.LEAST, number, name, numbers);
    }

    private static void check(Kind kind, int answer, long finding, String name, int... numbers) {
        SpanBook x = kind.make();
        String text = Call.text(name, numbers) + " in a book of kind " + kind;
        Due.is(text, Call.on(x, name, numbers), answer);
        List<Long> seen = Kind.seen(x);
        List<Long> untouched = UNTOUCHED.get(kind);
        Due.is(text + ": then count(8)", seen.get(0), finding);
        Due.holds(text + " changed something", seen.subList(1, seen.size()).equals(untouched.subList(1, untouched.size())));
    }
}
