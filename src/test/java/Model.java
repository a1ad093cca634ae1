import java.util.ArrayList;
import java.util.Comparator;
import java.util.List;
import java.util.TreeMap;
import java.util.TreeSet;

/** The document's words, one by one and as slow as they come, to hold the class against. */
final class Model {
    private static final int LEAST = Integer.MIN_VALUE;
    private static final long LOW = -1000000000L, HIGH = 1000000000L;

    private record Span(int key, long from, long to) {
        boolean meets(Span other) {
            return meets(other.from, other.to);
        }

        boolean meets(long a, long b) {
            return Math.max(from, a) < Math.min(to, b);
        }
    }

    private static final Comparator<Span> ORDER =
        Comparator.comparingLong(Span::from).thenComparingLong(Span::to).thenComparingInt(Span::key);

    private TreeMap<Integer, Span> spans = new TreeMap<>();
    private final List<TreeMap<Integer, Span>> done = new ArrayList<>();
    private final Object[] sheets = new Object[4];
    private int finding = 0;

    private static boolean isKey(int key) {
        return 0 <= key && key <= 47;
    }

    private static boolean isSpan(long from, long to) {
        return LOW <= from && from < to && to <= HIGH;
    }

    private List<Span> ordered() {
        List<Span> all = new ArrayList<>(spans.values());
        all.sort(ORDER);
        return all;
    }

    private void note() {
        done.add(new TreeMap<>(spans));
        if (done.size() > 64) {
            done.remove(0);
        }
    }

    // spans

    int put(int key, int from, int to) {
        if (!isKey(key) || !isSpan(from, to)) {
            return -2;
        }
        if (spans.containsKey(key)) {
            return -3;
        }
        note();
        spans.put(key, new Span(key, from, to));
        return spans.size();
    }

    int drop(int key) {
        if (!isKey(key)) {
            return -2;
        }
        if (!spans.containsKey(key)) {
            return -3;
        }
        note();
        spans.remove(key);
        return spans.size();
    }

    int move(int key, int by) {
        if (!isKey(key)) {
            return -2;
        }
        Span old = spans.get(key);
        if (old == null) {
            return -3;
        }
        if (!isSpan(old.from + by, old.to + by)) {
            return -4;
        }
        note();
        spans.put(key, new Span(key, old.from + by, old.to + by));
        return 1;
    }

    int undo() {
        if (done.isEmpty()) {
            return -3;
        }
        spans = done.remove(done.size() - 1);
        return done.size();
    }

    int fill(int s) {
        if (s < 0 || s > 3) {
            return -2;
        }
        if (sheets[s] == null) {
            return found(1);
        }
        int filled = 0;
        for (int i = 0; i + 1 < length(s); i += 2) {
            int key = 0;
            while (spans.containsKey(key)) {
                key++;
            }
            if (put(key, item(s, i), item(s, i + 1)) < 0) {
                return filled;
            }
            filled++;
        }
        return filled;
    }

    int span(int key, int what) {
        Span it = spans.get(key);
        return it == null || what < 0 || what > 1 ? LEAST : (int) (what == 0 ? it.from : it.to);
    }

    // order, the tree

    int rank(int key) {
        return !isKey(key) ? -2 : ordered().indexOf(spans.get(key)) < 0 ? -3 : ordered().indexOf(spans.get(key));
    }

    int ranked(int rank) {
        return !isKey(rank) ? -2 : rank < spans.size() ? ordered().get(rank).key : -1;
    }

    private static int weight(Span it) {
        return (int) ((it.key + 1L) * 40503L % 65536L);
    }

    private record Node(Span it, Node left, Node right) {
        int members() {
            return 1 + (left == null ? 0 : left.members()) + (right == null ? 0 : right.members());
        }

        int longest() {
            return 1 + Math.max(left == null ? 0 : left.longest(), right == null ? 0 : right.longest());
        }

        long end() {
            long far = it.to;
            far = left == null ? far : Math.max(far, left.end());
            return right == null ? far : Math.max(far, right.end());
        }

        int looks(long a, long b) {
            int sum = 1;
            if (left != null && left.end() > a) {
                sum += left.looks(a, b);
            }
            if (right != null && right.end() > a && it.from < b) {
                sum += right.looks(a, b);
            }
            return sum;
        }
    }

    private static Node grow(List<Span> part) {
        if (part.isEmpty()) {
            return null;
        }
        int at = 0;
        for (int i = 1; i < part.size(); i++) {
            at = weight(part.get(i)) > weight(part.get(at)) ? i : at;
        }
        return new Node(part.get(at), grow(part.subList(0, at)), grow(part.subList(at + 1, part.size())));
    }

    private List<Node> wayTo(int key) {
        List<Node> way = new ArrayList<>();
        Span it = spans.get(key);
        Node node = grow(ordered());
        while (node != null && it != null) {
            way.add(node);
            int side = ORDER.compare(it, node.it);
            node = side == 0 ? null : side < 0 ? node.left : node.right;
        }
        return way;
    }

    int root() {
        Node top = grow(ordered());
        return top == null ? -1 : top.it.key;
    }

    int tree(int key, int what) {
        if (!isKey(key) || what < 0 || what > 5) {
            return -2;
        }
        if (!spans.containsKey(key)) {
            return -3;
        }
        List<Node> way = wayTo(key);
        Node own = way.get(way.size() - 1);
        switch (what) {
            case 0: return way.size() < 2 ? -1 : way.get(way.size() - 2).it.key;
            case 1: return own.left == null ? -1 : own.left.it.key;
            case 2: return own.right == null ? -1 : own.right.it.key;
            case 3: return way.size() - 1;
            case 4: return own.members();
            default: return own.longest();
        }
    }

    int end(int key) {
        List<Node> way = wayTo(key);
        return way.isEmpty() ? LEAST : (int) way.get(way.size() - 1).end();
    }

    int looks(int a, int b) {
        Node top = grow(ordered());
        return !isSpan(a, b) ? -2 : top == null ? 0 : top.looks(a, b);
    }

    // what meets, what is taken, what is free

    private int pick(List<Integer> keys, int i) {
        return i == -1 ? keys.size() : i < keys.size() ? keys.get(i) : -1;
    }

    private List<Integer> meeting(long a, long b) {
        List<Integer> keys = new ArrayList<>();
        for (Span it : ordered()) {
            if (it.meets(a, b)) {
                keys.add(it.key);
            }
        }
        return keys;
    }

    int meets(int a, int b, int i) {
        return !isSpan(a, b) || i < -1 || i > 47 ? -2 : pick(meeting(a, b), i);
    }

    int holds(int point, int i) {
        return point < LOW || point > HIGH || i < -1 || i > 47 ? -2 : pick(meeting(point, point + 1L), i);
    }

    /** FREE parts by the points at which anything begins or ends: what lies between two of these is alike. */
    private List<long[]> parts(long a, long b) {
        TreeSet<Long> marks = new TreeSet<>(List.of(a, b));
        for (Span it : spans.values()) {
            marks.add(Math.min(Math.max(it.from, a), b));
            marks.add(Math.min(Math.max(it.to, a), b));
        }
        List<long[]> parts = new ArrayList<>();
        for (Long mark : marks) {
            Long next = marks.higher(mark);
            if (next == null || !meeting(mark, next).isEmpty()) {
                continue;
            }
            if (!parts.isEmpty() && parts.get(parts.size() - 1)[1] == mark) {
                parts.get(parts.size() - 1)[1] = next;
            } else {
                parts.add(new long[] {mark, next});
            }
        }
        return parts;
    }

    int taken(int a, int b) {
        if (!isSpan(a, b)) {
            return -2;
        }
        long free = 0;
        for (long[] part : parts(a, b)) {
            free += part[1] - part[0];
        }
        return (int) ((long) b - a - free);
    }

    int frees(int a, int b) {
        return !isSpan(a, b) ? -2 : parts(a, b).size();
    }

    int free(int a, int b, int i, int what) {
        if (!isSpan(a, b) || i < 0 || i > 48 || what < 0 || what > 1 || i >= parts(a, b).size()) {
            return LEAST;
        }
        return (int) parts(a, b).get(i)[what];
    }

    private boolean isPlace(long p, long size) {
        return LOW <= p && p + size <= HIGH && meeting(p, p + size).isEmpty();
    }

    /** A best place stands at the point, at an end of THE RANGE or against a SPAN. */
    int place(int point, int size, int what) {
        if (point < LOW || point > HIGH || size < 1 || size > HIGH || what < 0 || what > 2) {
            return LEAST;
        }
        TreeSet<Long> tries = new TreeSet<>(List.of((long) point, (long) point - size, LOW, HIGH - size));
        for (Span it : spans.values()) {
            tries.add(it.to);
            tries.add(it.from - size);
        }
        Long best = null;
        for (Long p : tries) {
            if (!isPlace(p, size) || what == 0 && p < point || what == 1 && p + size > point) {
                continue;
            }
            boolean better = best == null || what == 1 || what == 2 && Math.abs(p - point) < Math.abs(best - point);
            best = better ? p : best;
        }
        return best == null ? LEAST : (int) (long) best;
    }

    // rooms, clashes

    int deep() {
        int most = 0;
        for (Span it : spans.values()) {
            most = Math.max(most, meeting(it.from, it.from + 1).size());
        }
        return most;
    }

    int point() {
        for (Span it : ordered()) {
            if (meeting(it.from, it.from + 1).size() == deep()) {
                return (int) it.from;
            }
        }
        return LEAST;
    }

    private TreeMap<Integer, Integer> rooms() {
        TreeMap<Integer, Integer> rooms = new TreeMap<>();
        for (Span it : ordered()) {
            TreeSet<Integer> had = new TreeSet<>();
            for (Integer other : rooms.keySet()) {
                if (spans.get(other).meets(it)) {
                    had.add(rooms.get(other));
                }
            }
            int own = 0;
            while (had.contains(own)) {
                own++;
            }
            rooms.put(it.key, own);
        }
        return rooms;
    }

    int room(int key) {
        if (key == -1) {
            return new TreeSet<>(rooms().values()).size();
        }
        return !isKey(key) ? -2 : !spans.containsKey(key) ? -3 : rooms().get(key);
    }

    int keep(int i) {
        List<Span> byTo = new ArrayList<>(spans.values());
        byTo.sort(Comparator.comparingLong(Span::to).thenComparing(ORDER));
        List<Integer> kept = new ArrayList<>();
        for (Span it : byTo) {
            if (kept.stream().noneMatch(key -> spans.get(key).meets(it))) {
                kept.add(it.key);
            }
        }
        return i < -1 || i > 47 ? -2 : pick(kept, i);
    }

    private List<Span[]> pairs() {
        List<Span[]> pairs = new ArrayList<>();
        for (Span ahead : ordered()) {
            for (Span other : ordered()) {
                if (ORDER.compare(ahead, other) < 0 && ahead.meets(other)) {
                    pairs.add(new Span[] {ahead, other});
                }
            }
        }
        return pairs;
    }

    int clashes() {
        return pairs().size();
    }

    int clash(int i, int what) {
        if (i < 0 || i > 1127 || what < 0 || what > 2) {
            return -2;
        }
        List<Span[]> pairs = pairs();
        if (i >= pairs.size()) {
            return -1;
        }
        Span p = pairs.get(i)[0];
        Span q = pairs.get(i)[1];
        return what == 0 ? p.key : what == 1 ? q.key : (int) (Math.min(p.to, q.to) - Math.max(p.from, q.from));
    }

    long alone() {
        long bits = 0;
        for (Span it : spans.values()) {
            bits |= meeting(it.from, it.to).size() == 1 ? 1L << it.key : 0;
        }
        return bits;
    }

    private TreeSet<Integer> groupOf(int key) {
        TreeSet<Integer> group = new TreeSet<>(List.of(key));
        int before = 0;
        while (before != group.size()) {
            before = group.size();
            for (Integer member : List.copyOf(group)) {
                group.addAll(meeting(spans.get(member).from, spans.get(member).to));
            }
        }
        return group;
    }

    int group(int key, int what) {
        if (key != -1 && !isKey(key) || what < 0 || what > 1) {
            return -2;
        }
        if (key == -1) {
            TreeSet<Integer> leasts = new TreeSet<>();
            spans.keySet().forEach(each -> leasts.add(groupOf(each).first()));
            return leasts.size();
        }
        return !spans.containsKey(key) ? -3 : what == 0 ? groupOf(key).first() : groupOf(key).size();
    }

    // sheets

    private int found(int number) {
        finding = number;
        return -10 - number;
    }

    private int length(int s) {
        return java.lang.reflect.Array.getLength(sheets[s]);
    }

    private int item(int s, int i) {
        return java.lang.reflect.Array.getInt(sheets[s], i);
    }

    private int formOf(int s) {
        return sheets[s] instanceof byte[] ? 0 : sheets[s] instanceof short[] ? 1 : 2;
    }

    private void setItem(int s, int i, int v) {
        if (sheets[s] instanceof byte[] row) {
            row[i] = (byte) v;
        } else if (sheets[s] instanceof short[] row) {
            row[i] = (short) v;
        } else if (sheets[s] instanceof int[] row) {
            row[i] = v;
        }
    }

    int sheet(int s, int form, int n) {
        if (s < 0 || s > 3 || form < 0 || form > 2 || n > 60) {
            return -2;
        }
        if (n < 0) {
            return found(5);
        }
        sheets[s] = form == 0 ? new byte[n] : form == 1 ? new short[n] : new int[n];
        return n;
    }

    int lose(int s) {
        if (s < 0 || s > 3) {
            return -2;
        }
        if (sheets[s] == null) {
            return found(1);
        }
        int had = length(s);
        sheets[s] = null;
        return had;
    }

    int lay(int s, int form, int i, int v) {
        if (s < 0 || s > 3 || form < 0 || form > 2) {
            return -2;
        }
        if (sheets[s] == null) {
            return found(1);
        }
        if (formOf(s) != form) {
            return found(3);
        }
        if (i < 0 || i >= length(s)) {
            return found(2);
        }
        setItem(s, i, v);
        return 1;
    }

    int get(int s, int form, int i) {
        if (s < 0 || s > 3 || form < 0 || form > 2) {
            return LEAST;
        }
        if (sheets[s] == null) {
            found(1);
        } else if (formOf(s) != form) {
            found(3);
        } else if (i < 0 || i >= length(s)) {
            found(2);
        } else {
            return item(s, i);
        }
        return LEAST;
    }

    int copy(int s, int i, int t, int j, int n) {
        if (s < 0 || s > 3 || t < 0 || t > 3) {
            return -2;
        }
        try {
            System.arraycopy(sheets[s], i, sheets[t], j, n);
            return 1;
        } catch (NullPointerException e) {
            return found(1);
        } catch (ArrayStoreException e) {
            return found(4);
        } catch (IndexOutOfBoundsException e) {
            return found(2);
        }
    }

    int write(int a, int b, int s) {
        if (!isSpan(a, b) || s < 0 || s > 3) {
            return -2;
        }
        if (sheets[s] == null) {
            return found(1);
        }
        List<Integer> keys = meeting(a, b);
        int n = Math.min(length(s), keys.size());
        for (int i = 0; i < n; i++) {
            setItem(s, i, keys.get(i));
        }
        return n;
    }

    int count(int what) {
        Node top = grow(ordered());
        switch (what) {
            case 0: return spans.size();
            case 1: return done.size();
            case 2: return top == null ? 0 : top.longest();
            case 3: return deep();
            case 4: return room(-1);
            case 5: return keep(-1);
            case 6: return group(-1, 0);
            case 7: return clashes();
            case 8: return finding;
            default: return -2;
        }
    }

    long digest() {
        List<Long> all = new ArrayList<>();
        for (int what = 0; what <= 7; what++) {
            all.add((long) count(what));
        }
        all.addAll(List.of((long) root(), (long) point(), alone()));
        for (int k = 0; k <= 47; k++) {
            int[] ints = {span(k, 0), span(k, 1), rank(k), tree(k, 0), tree(k, 1), tree(k, 2), tree(k, 3), tree(k, 4),
                tree(k, 5), end(k), room(k), group(k, 0), group(k, 1)};
            addAll(all, ints);
        }
        for (int i = 0; i <= 47; i++) {
            addAll(all, ranked(i), keep(i));
        }
        for (int i = 0; i <= 30; i++) {
            addAll(all, clash(i, 0), clash(i, 1), clash(i, 2));
        }
        for (int p = -50; p <= 150; p += 20) {
            addAll(all, holds(p, -1), holds(p, 1), place(p, 7, 0), place(p, 7, 1), place(p, 7, 2));
        }
        for (int a : new int[] {-60, -20, 20, 60}) {
            int b = a + 90;
            addAll(all, looks(a, b), meets(a, b, -1), meets(a, b, 0), taken(a, b), frees(a, b));
            addAll(all, free(a, b, 0, 0), free(a, b, 0, 1), free(a, b, 1, 0), free(a, b, 1, 1));
        }
        long h = 17;
        for (long value : all) {
            h = 31 * h + value;
        }
        return h;
    }

    private static void addAll(List<Long> all, int... ints) {
        for (int value : ints) {
            all.add((long) value);
        }
    }
}
