import java.lang.reflect.Method;
import java.util.ArrayList;
import java.util.Arrays;
import java.util.List;
import java.util.Random;

/** Long runs of calls, the same ones in each run of the test, on the class and on the model. */
public final class ModelTest {
    private static final int RUNS = 240;
    /** With digest() at the end of a run an object is used for 512 calls, all that the document speaks of. */
    private static final int CALLS = 511;
    private static final int[] EDGES = {
        -1000000001, -1000000000, -999999999, 999999999, 1000000000, 1000000001, Integer.MIN_VALUE,
        Integer.MIN_VALUE + 1, Integer.MAX_VALUE, Integer.MAX_VALUE - 1, 0, -1, 1, -2};
    /** How often what changes the book is called: else a run would mostly ask. */
    private static final List<String> OFTEN = List.of("put", "put", "put", "put", "put", "put", "drop", "move", "move",
        "undo", "fill", "sheet", "lay", "lay", "copy", "write");

    private final Random random;
    /** How far from 0 most points are: a small number makes many that are alike. */
    private final int spread;
    /** How many of a hundred arguments are drawn without regard to what they stand for. */
    private final int wild;
    /** The lower it is, the seldomer what takes spans out is called. */
    private final int thinning;

    private ModelTest(int run) {
        random = new Random(7919L * run + 1);
        int[] spreads = {4, 12, 60, 150, 100000, 1000000000};
        spread = spreads[run % spreads.length];
        wild = run % 4 == 3 ? 20 : 2;
        thinning = run % 5;
    }

    public static void main(String[] args) throws Exception {
        List<Method> methods = faceOf(SpanBook.class);
        for (int run = 0; run < RUNS && Due.wrongs() < 10; run++) {
            new ModelTest(run).play(run, methods);
        }
        Due.finish("ModelTest");
    }

    private static List<Method> faceOf(Class<?> type) {
        List<Method> methods = new ArrayList<>();
        for (Method method : type.getDeclaredMethods()) {
            if (java.lang.reflect.Modifier.isPublic(method.getModifiers())) {
                methods.add(method);
            }
        }
        methods.sort((p, q) -> p.getName().compareTo(q.getName()));
        return methods;
    }

    private void play(int run, List<Method> methods) throws Exception {
        SpanBook book = new SpanBook();
        Model model = new Model();
        for (int call = 0; call < CALLS && Due.wrongs() < 10; call++) {
            Method method = draw(methods);
            Object[] values = arguments(method.getName(), method.getParameterCount(), model);
            Method twin = Model.class.getDeclaredMethod(method.getName(), method.getParameterTypes());
            Number got = (Number) method.invoke(book, values);
            Number want = (Number) twin.invoke(model, values);
            String text = "run " + run + ", call " + call + ": " + method.getName() + Arrays.toString(values);
            Due.is(text, got.longValue(), want.longValue());
        }
        Due.is("run " + run + ": digest", book.digest(), model.digest());
    }

    private Method draw(List<Method> methods) {
        for (int tries = 0; tries < 100; tries++) {
            String name = random.nextInt(3) == 0 ? OFTEN.get(random.nextInt(OFTEN.size())) : null;
            Method any = methods.get(random.nextInt(methods.size()));
            for (Method method : methods) {
                any = method.getName().equals(name) ? method : any;
            }
            boolean thins = any.getName().equals("drop") || any.getName().equals("undo");
            boolean slow = any.getName().equals("digest") && random.nextInt(4) != 0;
            if (!slow && !(thins && random.nextInt(5) > thinning)) {
                return any;
            }
        }
        return methods.get(0);
    }

    private Object[] arguments(String name, int n, Model model) {
        int[] values = sensible(name, model);
        Object[] boxed = new Object[n];
        for (int i = 0; i < n; i++) {
            boxed[i] = random.nextInt(100) < wild ? anything() : values[i];
        }
        return boxed;
    }

    private int anything() {
        return switch (random.nextInt(4)) {
            case 0 -> EDGES[random.nextInt(EDGES.length)];
            case 1 -> random.nextInt();
            case 2 -> random.nextInt(64) - 4;
            default -> point();
        };
    }

    private int upTo(int most) {
        return random.nextInt(most + 1);
    }

    private int key() {
        return upTo(47);
    }

    /** One that is there, if there is any: else most calls with a key would be refused. */
    private int keyThere(Model model) {
        int n = model.count(0);
        return n == 0 || random.nextInt(8) == 0 ? key() : model.ranked(random.nextInt(n));
    }

    private int index() {
        return random.nextInt(3) == 0 ? -1 : random.nextInt(3) == 0 ? upTo(47) : upTo(8);
    }

    private int point() {
        if (random.nextInt(40) == 0) {
            return random.nextBoolean() ? -1000000000 + upTo(3) : 1000000000 - upTo(3);
        }
        return random.nextInt(2 * spread + 1) - spread;
    }

    private int behind(int a) {
        long length = random.nextInt(3) == 0 ? 1 + upTo(Math.min(3, spread)) : 1 + upTo(spread);
        return (int) Math.min(1000000000L, a + (random.nextInt(6) == 0 ? length : 1 + (length - 1) / 4));
    }

    private int[] sensible(String name, Model model) {
        int a = point();
        int b = behind(a);
        return switch (name) {
            case "put" -> new int[] {key(), a, b};
            case "drop", "rank", "end" -> new int[] {keyThere(model)};
            case "move" -> new int[] {keyThere(model), random.nextInt(2 * spread + 1) - spread};
            case "span", "group" -> new int[] {random.nextInt(6) == 0 ? -1 : keyThere(model), upTo(1)};
            case "room" -> new int[] {random.nextInt(4) == 0 ? -1 : keyThere(model)};
            case "tree" -> new int[] {keyThere(model), upTo(5)};
            case "ranked" -> new int[] {key()};
            case "looks", "taken", "frees" -> new int[] {a, behind(b)};
            case "meets" -> new int[] {a, behind(b), index()};
            case "free" -> new int[] {a, behind(behind(b)), upTo(6), upTo(1)};
            case "holds" -> new int[] {a, index()};
            case "place" -> new int[] {a, 1 + upTo(random.nextBoolean() ? Math.min(20, spread) : spread - 1), upTo(2)};
            case "keep" -> new int[] {index()};
            case "clash" -> new int[] {random.nextBoolean() ? upTo(1127) : upTo(Math.max(1, model.clashes())), upTo(2)};
            case "count" -> new int[] {upTo(8)};
            default -> ofSheets(name, a, b);
        };
    }

    private int[] ofSheets(String name, int a, int b) {
        int s = upTo(3);
        int form = random.nextInt(3) == 0 ? upTo(2) : s % 3;
        return switch (name) {
            case "fill", "lose" -> new int[] {s};
            case "sheet" -> new int[] {s, form, random.nextInt(12) - 1 + upTo(1) * upTo(49)};
            case "lay" -> new int[] {s, form, upTo(9), random.nextBoolean() ? a : random.nextInt()};
            case "get" -> new int[] {s, form, upTo(9)};
            case "copy" -> new int[] {s, upTo(5), random.nextBoolean() ? s : upTo(3), upTo(5), random.nextInt(8) - 1};
            case "write" -> new int[] {a, behind(b), s};
            default -> new int[0];
        };
    }
}
