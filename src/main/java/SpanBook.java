/**
 * A book of spans, each under a key: where each stands in ORDER and in THE TREE, what is taken and
 * what is free, which rooms they want, which of them clash or hang together, and rows to fill the
 * book from. README.md says how to use it; the words in capitals are those of the document.
 */
public final class SpanBook {
    public static final int NONE = -1, BAD = -2, NOT = -3, FAR = -4;

    private static final int KEYS = 48;
    private static final int LOW = -1000000000, HIGH = 1000000000;
    private static final int LEAST_INT = -2147483648;
    private static final int MOST_CLASHES = KEYS * (KEYS - 1) / 2;
    private static final int MOST_DONE = 64;
    private static final int SHEETS = 4, MOST_ITEMS = 60;
    private static final int BYTES = 0, SHORTS = 1, INTS = 2;
    private static final int FINE = 0, NULL = 1, INDEX = 2, CAST = 3, STORE = 4, SIZE = 5;

    private final Spans spans = new Spans();
    private final Done done = new Done();
    private final Tree shape = new Tree();
    private final Gaps gaps = new Gaps();
    private final Rooms rooms = new Rooms();
    private final Kept kept = new Kept();
    private final Pairs pairs = new Pairs();
    private final Groups groups = new Groups();
    private final Sheet[] sheets = new Sheet[SHEETS];
    private boolean stale = true;
    private int finding = FINE;

    public SpanBook() {
        for (int s = 0; s < SHEETS; s++) {
            sheets[s] = new Sheet();
        }
    }

    // ---- spans

    public int put(int key, int from, int to) {
        if (!isKey(key) || !isStretch(from, to)) {
            return BAD;
        }
        if (spans.there[key]) {
            return NOT;
        }
        change(key, true, from, to);
        return spans.size;
    }

    public int drop(int key) {
        if (!isKey(key)) {
            return BAD;
        }
        if (!spans.there[key]) {
            return NOT;
        }
        change(key, false, 0, 0);
        return spans.size;
    }

    public int move(int key, int by) {
        if (!isKey(key)) {
            return BAD;
        }
        if (!spans.there[key]) {
            return NOT;
        }
        // in longs, as FROM and TO with any int may go beyond the ints
        long from = (long) spans.from[key] + by;
        long to = (long) spans.to[key] + by;
        if (from < LOW || to > HIGH) {
            return FAR;
        }
        change(key, true, (int) from, (int) to);
        return 1;
    }

    public int undo() {
        if (done.size == 0) {
            return NOT;
        }
        int slot = done.takeLast();
        setSpan(done.key[slot], done.there[slot], done.from[slot], done.to[slot]);
        return done.size;
    }

    public int fill(int s) {
        if (!isSheet(s)) {
            return BAD;
        }
        Sheet row = sheets[s];
        if (row.lost) {
            return found(NULL);
        }
        int filled = 0;
        for (int i = 0; i + 1 < row.size; i += 2) {
            int key = spans.leastUnused();
            if (key == NONE || !isStretch(row.items[i], row.items[i + 1])) {
                break;
            }
            change(key, true, row.items[i], row.items[i + 1]);
            filled++;
        }
        return filled;
    }

    public int span(int key, int what) {
        if (!isThere(key) || what < 0 || what > 1) {
            return LEAST_INT;
        }
        return what == 0 ? spans.from[key] : spans.to[key];
    }

    // ---- order, the tree

    public int rank(int key) {
        if (!isKey(key)) {
            return BAD;
        }
        return spans.there[key] ? spans.rankOf[key] : NOT;
    }

    public int ranked(int rank) {
        if (!isKey(rank)) {
            return BAD;
        }
        return rank < spans.size ? spans.order[rank] : NONE;
    }

    public int root() {
        settle();
        return shape.top;
    }

    public int tree(int key, int what) {
        if (!isKey(key) || what < 0 || what > 5) {
            return BAD;
        }
        if (!spans.there[key]) {
            return NOT;
        }
        settle();
        switch (what) {
            case 0: return shape.above[key];
            case 1: return shape.left[key];
            case 2: return shape.right[key];
            case 3: return shape.depth[key];
            case 4: return shape.members[key];
            default: return shape.height[key];
        }
    }

    public int end(int key) {
        if (!isThere(key)) {
            return LEAST_INT;
        }
        settle();
        return shape.farthest[key];
    }

    public int looks(int a, int b) {
        if (!isStretch(a, b)) {
            return BAD;
        }
        settle();
        return shape.lookedAt(spans, a, b);
    }

    // ---- what meets, what is taken, what is free

    public int meets(int a, int b, int i) {
        if (!isStretch(a, b) || !isKeyOrNone(i)) {
            return BAD;
        }
        return i == NONE ? spans.meeting(a, b) : spans.meetingAt(a, b, i);
    }

    public int holds(int point, int i) {
        if (!isPoint(point) || !isKeyOrNone(i)) {
            return BAD;
        }
        return i == NONE ? spans.meeting(point, point + 1) : spans.meetingAt(point, point + 1, i);
    }

    public int taken(int a, int b) {
        if (!isStretch(a, b)) {
            return BAD;
        }
        settle();
        return b - a - gaps.pointsWithin(a, b);
    }

    public int frees(int a, int b) {
        if (!isStretch(a, b)) {
            return BAD;
        }
        settle();
        return gaps.partsWithin(a, b);
    }

    public int free(int a, int b, int i, int what) {
        if (!isStretch(a, b) || i < 0 || i > KEYS || what < 0 || what > 1) {
            return LEAST_INT;
        }
        settle();
        int gap = gaps.partAt(a, b, i);
        if (gap == NONE) {
            return LEAST_INT;
        }
        return what == 0 ? Math.max(gaps.begin[gap], a) : Math.min(gaps.behind[gap], b);
    }

    public int place(int point, int size, int what) {
        if (!isPoint(point) || size < 1 || size > HIGH || what < 0 || what > 2) {
            return LEAST_INT;
        }
        settle();
        switch (what) {
            case 0: return gaps.nextPlace(point, size);
            case 1: return gaps.lastPlace(point, size);
            default: return gaps.nearestPlace(point, size);
        }
    }

    // ---- rooms, clashes

    public int deep() {
        settle();
        return rooms.deepest;
    }

    public int point() {
        settle();
        return rooms.deepestPoint;
    }

    public int room(int key) {
        if (!isKeyOrNone(key)) {
            return BAD;
        }
        if (key != NONE && !spans.there[key]) {
            return NOT;
        }
        settle();
        return key == NONE ? rooms.size : rooms.roomOf[key];
    }

    public int keep(int i) {
        if (!isKeyOrNone(i)) {
            return BAD;
        }
        settle();
        if (i == NONE) {
            return kept.size;
        }
        return i < kept.size ? kept.keys[i] : NONE;
    }

    public int clashes() {
        settle();
        return pairs.size;
    }

    public int clash(int i, int what) {
        if (i < 0 || i >= MOST_CLASHES || what < 0 || what > 2) {
            return BAD;
        }
        settle();
        int ahead = pairs.rankAhead(i, spans.size);
        if (ahead == NONE) {
            return NONE;
        }
        int behind = ahead + 1 + i - pairs.firstOf[ahead];
        switch (what) {
            case 0: return spans.order[ahead];
            case 1: return spans.order[behind];
            default: return spans.shared(ahead, behind);
        }
    }

    public long alone() {
        settle();
        return groups.aloneBits;
    }

    public int group(int key, int what) {
        if (!isKeyOrNone(key) || what < 0 || what > 1) {
            return BAD;
        }
        if (key != NONE && !spans.there[key]) {
            return NOT;
        }
        settle();
        if (key == NONE) {
            return groups.size;
        }
        int own = groups.groupOf[key];
        return what == 0 ? groups.leastKey[own] : groups.members[own];
    }

    // ---- sheets

    public int sheet(int s, int form, int n) {
        if (!isSheet(s) || !isForm(form) || n > MOST_ITEMS) {
            return BAD;
        }
        if (n < 0) {
            return found(SIZE);
        }
        sheets[s].makeNew(form, n);
        return n;
    }

    public int lose(int s) {
        if (!isSheet(s)) {
            return BAD;
        }
        if (sheets[s].lost) {
            return found(NULL);
        }
        sheets[s].lost = true;
        return sheets[s].size;
    }

    public int lay(int s, int form, int i, int v) {
        int refusal = itemRefusal(s, form, i);
        if (refusal != FINE) {
            return refusal;
        }
        sheets[s].setItem(i, v);
        return 1;
    }

    public int get(int s, int form, int i) {
        return itemRefusal(s, form, i) == FINE ? sheets[s].items[i] : LEAST_INT;
    }

    public int copy(int s, int i, int t, int j, int n) {
        if (!isSheet(s) || !isSheet(t)) {
            return BAD;
        }
        Sheet source = sheets[s];
        Sheet target = sheets[t];
        if (source.lost || target.lost) {
            return found(NULL);
        }
        if (source.form != target.form) {
            return found(STORE);
        }
        if (!source.hasItems(i, n) || !target.hasItems(j, n)) {
            return found(INDEX);
        }
        System.arraycopy(source.items, i, target.items, j, n);
        return 1;
    }

    public int write(int a, int b, int s) {
        if (!isStretch(a, b) || !isSheet(s)) {
            return BAD;
        }
        Sheet row = sheets[s];
        if (row.lost) {
            return found(NULL);
        }
        int written = 0;
        for (int rank = 0; rank < spans.size && written < row.size; rank++) {
            int key = spans.order[rank];
            if (spans.meetsStretch(key, a, b)) {
                row.setItem(written, key);
                written++;
            }
        }
        return written;
    }

    public int count(int what) {
        settle();
        switch (what) {
            case 0: return spans.size;
            case 1: return done.size;
            case 2: return shape.top == NONE ? 0 : shape.height[shape.top];
            case 3: return rooms.deepest;
            case 4: return rooms.size;
            case 5: return kept.size;
            case 6: return groups.size;
            case 7: return pairs.size;
            case 8: return finding;
            default: return BAD;
        }
    }

    public long digest() {
        long h = 17;
        for (int what = 0; what <= 7; what++) {
            h = mixed(h, count(what));
        }
        h = mixed(h, root());
        h = mixed(h, point());
        h = mixed(h, alone());
        for (int key = 0; key < KEYS; key++) {
            h = mixedKey(h, key);
        }
        for (int i = 0; i < KEYS; i++) {
            h = mixed(h, ranked(i));
            h = mixed(h, keep(i));
        }
        for (int i = 0; i <= 30; i++) {
            for (int what = 0; what <= 2; what++) {
                h = mixed(h, clash(i, what));
            }
        }
        for (int p = -50; p <= 150; p += 20) {
            h = mixedPoint(h, p);
        }
        for (int a = -60; a <= 60; a += 40) {
            h = mixedStretch(h, a, a + 90);
        }
        return h;
    }

    private static long mixed(long h, long value) {
        return 31 * h + value;
    }

    private long mixedKey(long start, int key) {
        long h = mixed(start, span(key, 0));
        h = mixed(h, span(key, 1));
        h = mixed(h, rank(key));
        for (int what = 0; what <= 5; what++) {
            h = mixed(h, tree(key, what));
        }
        h = mixed(h, end(key));
        h = mixed(h, room(key));
        h = mixed(h, group(key, 0));
        return mixed(h, group(key, 1));
    }

    private long mixedPoint(long start, int p) {
        long h = mixed(start, holds(p, NONE));
        h = mixed(h, holds(p, 1));
        for (int what = 0; what <= 2; what++) {
            h = mixed(h, place(p, 7, what));
        }
        return h;
    }

    private long mixedStretch(long start, int a, int b) {
        long h = mixed(start, looks(a, b));
        h = mixed(h, meets(a, b, NONE));
        h = mixed(h, meets(a, b, 0));
        h = mixed(h, taken(a, b));
        h = mixed(h, frees(a, b));
        for (int i = 0; i <= 1; i++) {
            h = mixed(h, free(a, b, i, 0));
            h = mixed(h, free(a, b, i, 1));
        }
        return h;
    }

    // ---- what may be, what is refused

    private static boolean isKey(int key) {
        return key >= 0 && key < KEYS;
    }

    private static boolean isKeyOrNone(int key) {
        return key == NONE || isKey(key);
    }

    private static boolean isPoint(int point) {
        return point >= LOW && point <= HIGH;
    }

    private static boolean isStretch(int a, int b) {
        return a >= LOW && a < b && b <= HIGH;
    }

    private static boolean isSheet(int s) {
        return s >= 0 && s < SHEETS;
    }

    private static boolean isForm(int form) {
        return form >= BYTES && form <= INTS;
    }

    private boolean isThere(int key) {
        return isKey(key) && spans.there[key];
    }

    private int found(int number) {
        finding = number;
        return -10 - number;
    }

    private int itemRefusal(int s, int form, int i) {
        if (!isSheet(s) || !isForm(form)) {
            return BAD;
        }
        Sheet row = sheets[s];
        if (row.lost) {
            return found(NULL);
        }
        if (row.form != form) {
            return found(CAST);
        }
        return row.hasItems(i, 1) ? FINE : found(INDEX);
    }

    // ---- how the book changes

    private void change(int key, boolean there, int from, int to) {
        done.note(key, spans);
        setSpan(key, there, from, to);
    }

    private void setSpan(int key, boolean there, int from, int to) {
        if (spans.there[key]) {
            spans.remove(key);
        }
        if (there) {
            spans.add(key, from, to);
        }
        stale = true;
    }

    /** What follows from the spans is worked out when it is asked for, so that a run of changes costs it once. */
    private void settle() {
        if (!stale) {
            return;
        }
        shape.build(spans);
        gaps.build(spans);
        rooms.build(spans);
        kept.build(spans);
        pairs.build(spans);
        groups.build(spans);
        stale = false;
    }

    /** The SPANS by KEY, and their KEYS in ORDER. */
    private static final class Spans {
        final int[] from = new int[KEYS];
        final int[] to = new int[KEYS];
        final boolean[] there = new boolean[KEYS];
        final int[] order = new int[KEYS];
        final int[] rankOf = new int[KEYS];
        int size = 0;

        void add(int key, int begin, int behind) {
            from[key] = begin;
            to[key] = behind;
            there[key] = true;
            int rank = size;
            while (rank > 0 && isAhead(key, order[rank - 1])) {
                setRank(order[rank - 1], rank);
                rank--;
            }
            setRank(key, rank);
            size++;
        }

        void remove(int key) {
            there[key] = false;
            size--;
            for (int rank = rankOf[key]; rank < size; rank++) {
                setRank(order[rank + 1], rank);
            }
        }

        private void setRank(int key, int rank) {
            order[rank] = key;
            rankOf[key] = rank;
        }

        private boolean isAhead(int key, int other) {
            if (from[key] != from[other]) {
                return from[key] < from[other];
            }
            if (to[key] != to[other]) {
                return to[key] < to[other];
            }
            return key < other;
        }

        int leastUnused() {
            for (int key = 0; key < KEYS; key++) {
                if (!there[key]) {
                    return key;
                }
            }
            return NONE;
        }

        boolean meetsStretch(int key, int a, int b) {
            return from[key] < b && to[key] > a;
        }

        int meeting(int a, int b) {
            int met = 0;
            for (int rank = 0; rank < size; rank++) {
                if (meetsStretch(order[rank], a, b)) {
                    met++;
                }
            }
            return met;
        }

        int meetingAt(int a, int b, int i) {
            int met = 0;
            for (int rank = 0; rank < size; rank++) {
                if (meetsStretch(order[rank], a, b)) {
                    if (met == i) {
                        return order[rank];
                    }
                    met++;
                }
            }
            return NONE;
        }

        /** How many points two that MEET both hold; the one behind in ORDER begins last. */
        int shared(int rankAhead, int rankBehind) {
            int ahead = order[rankAhead];
            int behind = order[rankBehind];
            return Math.min(to[ahead], to[behind]) - from[behind];
        }
    }

    /** What is DONE, as how the SPAN of a KEY was before: a ring, so that the first is forgotten. */
    private static final class Done {
        final int[] key = new int[MOST_DONE];
        final boolean[] there = new boolean[MOST_DONE];
        final int[] from = new int[MOST_DONE];
        final int[] to = new int[MOST_DONE];
        int next = 0;
        int size = 0;

        void note(int ofKey, Spans spans) {
            key[next] = ofKey;
            there[next] = spans.there[ofKey];
            from[next] = spans.from[ofKey];
            to[next] = spans.to[ofKey];
            next = next + 1 < MOST_DONE ? next + 1 : 0;
            size = Math.min(size + 1, MOST_DONE);
        }

        int takeLast() {
            next = next > 0 ? next - 1 : MOST_DONE - 1;
            size--;
            return next;
        }
    }

    /** THE TREE, by KEY. */
    private static final class Tree {
        /** All KEYS, the greatest WEIGHT first: none stands here ahead of one that it is BELOW. */
        final int[] byWeight = new int[KEYS];
        final int[] above = new int[KEYS];
        final int[] left = new int[KEYS];
        final int[] right = new int[KEYS];
        final int[] depth = new int[KEYS];
        final int[] members = new int[KEYS];
        final int[] height = new int[KEYS];
        final int[] farthest = new int[KEYS];
        final boolean[] looked = new boolean[KEYS];
        int top = NONE;

        Tree() {
            for (int key = 0; key < KEYS; key++) {
                int at = key;
                while (at > 0 && weight(byWeight[at - 1]) < weight(key)) {
                    byWeight[at] = byWeight[at - 1];
                    at--;
                }
                byWeight[at] = key;
            }
        }

        private static int weight(int key) {
            return (key + 1) * 40503 % 65536;
        }

        void build(Spans spans) {
            top = NONE;
            for (int i = 0; i < KEYS; i++) {
                if (spans.there[byWeight[i]]) {
                    hang(byWeight[i], spans);
                }
            }
            for (int i = KEYS - 1; i >= 0; i--) {
                int key = byWeight[i];
                if (spans.there[key] && above[key] != NONE) {
                    tellAbove(key, above[key]);
                }
            }
        }

        /** As the heavier ones hang already, the first empty place on the way down is the right one. */
        private void hang(int key, Spans spans) {
            int holder = NONE;
            int next = top;
            int steps = 0;
            while (next != NONE && steps < KEYS) {
                holder = next;
                next = spans.rankOf[key] < spans.rankOf[holder] ? left[holder] : right[holder];
                steps++;
            }
            above[key] = holder;
            left[key] = NONE;
            right[key] = NONE;
            depth[key] = steps;
            members[key] = 1;
            height[key] = 1;
            farthest[key] = spans.to[key];
            if (holder == NONE) {
                top = key;
            } else if (spans.rankOf[key] < spans.rankOf[holder]) {
                left[holder] = key;
            } else {
                right[holder] = key;
            }
        }

        private void tellAbove(int key, int holder) {
            members[holder] += members[key];
            height[holder] = Math.max(height[holder], height[key] + 1);
            farthest[holder] = Math.max(farthest[holder], farthest[key]);
        }

        int lookedAt(Spans spans, int a, int b) {
            int sum = 0;
            for (int i = 0; i < KEYS; i++) {
                int key = byWeight[i];
                if (spans.there[key]) {
                    looked[key] = looksAt(key, spans, a, b);
                    sum += looked[key] ? 1 : 0;
                }
            }
            return sum;
        }

        private boolean looksAt(int key, Spans spans, int a, int b) {
            int holder = above[key];
            if (holder == NONE) {
                return true;
            }
            if (!looked[holder] || farthest[key] <= a) {
                return false;
            }
            return left[holder] == key || spans.from[holder] < b;
        }
    }

    /** The FREE parts of THE RANGE, from left to right; those of a stretch are cut from them. */
    private static final class Gaps {
        final int[] begin = new int[KEYS + 1];
        final int[] behind = new int[KEYS + 1];
        int size = 0;

        void build(Spans spans) {
            size = 0;
            int reached = LOW;
            for (int rank = 0; rank < spans.size; rank++) {
                int key = spans.order[rank];
                addPart(reached, spans.from[key]);
                reached = Math.max(reached, spans.to[key]);
            }
            addPart(reached, HIGH);
        }

        private void addPart(int from, int to) {
            if (from < to && size <= KEYS) {
                begin[size] = from;
                behind[size] = to;
                size++;
            }
        }

        private int pointsOf(int gap, int a, int b) {
            return Math.max(Math.min(behind[gap], b) - Math.max(begin[gap], a), 0);
        }

        int pointsWithin(int a, int b) {
            int points = 0;
            for (int gap = 0; gap < size; gap++) {
                points += pointsOf(gap, a, b);
            }
            return points;
        }

        int partsWithin(int a, int b) {
            int parts = 0;
            for (int gap = 0; gap < size; gap++) {
                parts += pointsOf(gap, a, b) > 0 ? 1 : 0;
            }
            return parts;
        }

        int partAt(int a, int b, int i) {
            int parts = 0;
            for (int gap = 0; gap < size; gap++) {
                if (pointsOf(gap, a, b) > 0) {
                    if (parts == i) {
                        return gap;
                    }
                    parts++;
                }
            }
            return NONE;
        }

        int nextPlace(int point, int length) {
            for (int gap = 0; gap < size; gap++) {
                int first = Math.max(begin[gap], point);
                if (first + length <= behind[gap]) {
                    return first;
                }
            }
            return LEAST_INT;
        }

        int lastPlace(int point, int length) {
            for (int gap = size - 1; gap >= 0; gap--) {
                int first = Math.min(behind[gap], point) - length;
                if (first >= begin[gap]) {
                    return first;
                }
            }
            return LEAST_INT;
        }

        int nearestPlace(int point, int length) {
            int after = nextPlace(point, length);
            int before = lastPlace(point + length, length);
            if (before == LEAST_INT) {
                return after;
            }
            if (after == LEAST_INT) {
                return before;
            }
            return point - before <= after - point ? before : after;
        }
    }

    /** ROOMS, and DEEP. */
    private static final class Rooms {
        final int[] roomOf = new int[KEYS];
        /** Of each room the TO of the last that got it: no other one there goes farther. */
        final int[] busyTo = new int[KEYS];
        int size = 0;
        int deepest = 0;
        int deepestPoint = LEAST_INT;

        void build(Spans spans) {
            size = 0;
            deepest = 0;
            deepestPoint = LEAST_INT;
            for (int rank = 0; rank < spans.size; rank++) {
                int key = spans.order[rank];
                giveRoom(key, spans.from[key], spans.to[key]);
                seeDepth(spans.from[key]);
            }
        }

        private void giveRoom(int key, int from, int to) {
            int own = 0;
            while (own < size && busyTo[own] > from) {
                own++;
            }
            roomOf[key] = own;
            busyTo[own] = to;
            size = Math.max(size, own + 1);
        }

        /** All that hold the point and have got a room have one each; a deepest point is where one begins. */
        private void seeDepth(int from) {
            int busy = 0;
            for (int i = 0; i < size; i++) {
                busy += busyTo[i] > from ? 1 : 0;
            }
            if (busy > deepest) {
                deepest = busy;
                deepestPoint = from;
            }
        }
    }

    /** KEEP. */
    private static final class Kept {
        final int[] byTo = new int[KEYS];
        final int[] keys = new int[KEYS];
        int size = 0;

        void build(Spans spans) {
            sortByTo(spans);
            size = 0;
            int reached = LOW;
            for (int i = 0; i < spans.size; i++) {
                int key = byTo[i];
                // by TO, so that whoever begins ahead of the last kept one's TO meets that one
                if (spans.from[key] >= reached) {
                    keys[size] = key;
                    size++;
                    reached = spans.to[key];
                }
            }
        }

        private void sortByTo(Spans spans) {
            for (int rank = 0; rank < spans.size; rank++) {
                int key = spans.order[rank];
                int at = rank;
                while (at > 0 && spans.to[byTo[at - 1]] > spans.to[key]) {
                    byTo[at] = byTo[at - 1];
                    at--;
                }
                byTo[at] = key;
            }
        }
    }

    /** CLASHES: those behind in ORDER with which a SPAN MEETS follow it without a gap. */
    private static final class Pairs {
        final int[] firstOf = new int[KEYS];
        int size = 0;

        void build(Spans spans) {
            size = 0;
            for (int rank = 0; rank < spans.size; rank++) {
                firstOf[rank] = size;
                int to = spans.to[spans.order[rank]];
                int other = rank + 1;
                while (other < spans.size && spans.from[spans.order[other]] < to) {
                    other++;
                }
                size += other - rank - 1;
            }
        }

        /** The RANK of the one ahead in the i-th CLASH: the last whose CLASHES begin there or before. */
        int rankAhead(int i, int ranks) {
            if (i >= size) {
                return NONE;
            }
            for (int rank = ranks - 1; rank >= 0; rank--) {
                if (firstOf[rank] <= i) {
                    return rank;
                }
            }
            return NONE;
        }
    }

    /** GROUPS, numbered in ORDER, and who is ALONE. */
    private static final class Groups {
        final int[] groupOf = new int[KEYS];
        final int[] leastKey = new int[KEYS];
        final int[] members = new int[KEYS];
        int size = 0;
        long aloneBits = 0;

        void build(Spans spans) {
            size = 0;
            int reached = LOW;
            for (int rank = 0; rank < spans.size; rank++) {
                int key = spans.order[rank];
                if (spans.from[key] >= reached) {
                    leastKey[size] = key;
                    members[size] = 0;
                    size++;
                }
                addMember(key, size - 1);
                reached = Math.max(reached, spans.to[key]);
            }
            seeAlone(spans);
        }

        private void addMember(int key, int own) {
            groupOf[key] = own;
            leastKey[own] = Math.min(leastKey[own], key);
            members[own]++;
        }

        private void seeAlone(Spans spans) {
            aloneBits = 0;
            for (int key = 0; key < KEYS; key++) {
                if (spans.there[key] && members[groupOf[key]] == 1) {
                    aloneBits |= 1L << key;
                }
            }
        }
    }

    /** A SHEET: its items stand in ints, cut to what its FORM can hold. */
    private static final class Sheet {
        final int[] items = new int[MOST_ITEMS];
        boolean lost = true;
        int form = BYTES;
        int size = 0;

        void makeNew(int newForm, int newSize) {
            lost = false;
            form = newForm;
            size = newSize;
            for (int i = 0; i < size; i++) {
                items[i] = 0;
            }
        }

        boolean hasItems(int i, int n) {
            return i >= 0 && n >= 0 && i <= size && n <= size - i;
        }

        void setItem(int i, int value) {
            if (form == BYTES) {
                items[i] = (byte) value;
            } else if (form == SHORTS) {
                items[i] = (short) value;
            } else {
                items[i] = value;
            }
        }
    }
}
