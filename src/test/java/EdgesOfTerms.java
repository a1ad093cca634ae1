import java.util.ArrayList;
import java.util.List;

/** Boundary cases of "What it is" and of "Terms": spans, stretches, order, the tree, DONE, SHEETS. */
final class EdgesOfTerms {
    private EdgesOfTerms() {
    }

    static void all() {
        Section is = Section.of("What it is");
        is.says("A SPAN has a KEY, 0 to 47,", EdgesOfTerms::keys);
        is.says("and goes from FROM to TO: it holds the points FROM, FROM and 1, .., TO less 1;", EdgesOfTerms::points);
        is.says("FROM is less than TO,", EdgesOfTerms::fromLessThanTo);
        is.says("both are -1000000000 to 1000000000 (THE RANGE).", EdgesOfTerms::range);
        is.says("An object is used for at most 512 calls after it has been made;", EdgesOfTerms::call512);
        is.says("what later calls answer is free.", EdgesOfTerms::laterCalls);
        Section terms = Section.of("Terms");
        terms.says("Two SPANS MEET, if any point is held by both;", EdgesOfTerms::spansMeet);
        terms.says("so do a SPAN and a stretch from a to b", EdgesOfTerms::stretchMeets);
        terms.says("(a less than b, both in THE RANGE),", EdgesOfTerms::stretches);
        terms.says("that holds a, .., b less 1.", EdgesOfTerms::stretchHolds);
        terms.says("ORDER is by FROM, of like ones by TO, of like ones by KEY;", EdgesOfTerms::order);
        terms.says("RANK counts it from 0 on.", EdgesOfTerms::ranksFromZero);
        theTree(terms);
        terms.says("DONE is what put(), drop(), move(), fill() did, one by one", EdgesOfTerms::doneByEach);
        terms.says("(of fill() each SPAN by itself),", EdgesOfTerms::doneByFill);
        terms.says("64 at most: of more the first is forgotten.", EdgesOfTerms::mostDone);
        terms.says("SHEETS 0 .. 3 are LOST (at first)", EdgesOfTerms::sheetsLost);
        terms.says("or a row of a FORM: 0 bytes, 1 shorts, 2 ints,", EdgesOfTerms::forms);
        terms.says("of 0 to 60 items (0 at first).", EdgesOfTerms::items);
    }

    private static void theTree(Section terms) {
        terms.says("THE TREE is of all SPANS: the WEIGHT of a KEY k is (k and 1) times 40503, modulo 65536.", EdgesOfTerms::weights);
        terms.says("ROOT is the SPAN with the greatest WEIGHT;", EdgesOfTerms::rootIsHeaviest);
        terms.says("its LEFT is the ROOT of those that are ahead of it in ORDER (likewise, and so on), its RIGHT of those behind it.",
            EdgesOfTerms::leftAndRight);
        terms.says("BELOW a SPAN are its LEFT, its RIGHT and all BELOW these.", EdgesOfTerms::below);
        terms.says("The END of a SPAN is the greatest TO of it and of all BELOW it.", EdgesOfTerms::ends);
        terms.says("For a stretch from a to b THE TREE LOOKS AT its ROOT;", EdgesOfTerms::looksAtRoot);
        terms.says("and where it LOOKS AT a SPAN, at its LEFT, if that has an END above a;", EdgesOfTerms::looksAtLeft);
        terms.says("at its RIGHT, if that has an END above a, and FROM of this SPAN is less than b.", EdgesOfTerms::looksAtRight);
        terms.says("(So it LOOKS AT all that MEET the stretch.)", EdgesOfTerms::looksAtAllThatMeet);
    }

    // ---- What it is

    private static void keys() {
        SpanBook x = Due.book(0, 1, 2, 47, 3, 4);
        Due.is("the least KEY", x.span(0, 0), 1);
        Due.is("the greatest KEY", x.span(47, 0), 3);
        Refused.badBeyond(0, 0, 47, "put", 0, 1, 2);
    }

    private static void points() {
        SpanBook x = Due.book(5, -3, 2, 6, 7, 8);
        int[][] held = {{-4, 0}, {-3, 1}, {-2, 1}, {1, 1}, {2, 0}, {6, 0}, {7, 1}, {8, 0}};
        for (int[] row : held) {
            Due.is("holds(" + row[0] + ", NONE)", x.holds(row[0], Due.NONE), row[1]);
        }
    }

    private static void fromLessThanTo() {
        Due.is("one point", new SpanBook().put(9, 7, 8), 1);
        Refused.bad("put", 9, 7, 7);
        Refused.bad("put", 9, 8, 7);
        Refused.bad("put", 9, Due.LOW, Due.LOW);
        Refused.bad("put", 9, Due.HIGH, Due.HIGH);
        Refused.bad("put", 9, Due.HIGH, Due.LOW);
    }

    private static void range() {
        SpanBook x = Due.book(1, Due.LOW, Due.LOW + 1, 2, Due.HIGH - 1, Due.HIGH, 3, Due.LOW, Due.HIGH);
        Due.is("the least FROM", x.span(3, 0), -1000000000);
        Due.is("the greatest TO", x.span(3, 1), 1000000000);
        Due.is("the least TO", x.span(1, 1), -999999999);
        Due.is("the greatest FROM", x.span(2, 0), 999999999);
        Refused.badBeyond(1, Due.LOW, Due.HIGH - 1, "put", 9, 0, Due.HIGH);
        Refused.badBeyond(2, Due.LOW + 1, Due.HIGH, "put", 9, Due.LOW, 0);
        Refused.bad("put", 9, Due.LEAST, Due.GREATEST);
        Refused.bad("put", 9, Due.GREATEST, Due.LEAST);
        Refused.bad("put", 9, Due.LOW - 2, Due.LOW - 1);
        Refused.bad("put", 9, Due.HIGH + 1, Due.HIGH + 2);
    }

    /** A book after 511 calls: a put and 510 moves. */
    private static SpanBook after511() {
        SpanBook x = Due.book(5, 0, 10);
        for (int i = 0; i < 510; i++) {
            x.move(5, 1);
        }
        return x;
    }

    private static void call512() {
        Due.is("span as the 512th call", after511().span(5, 0), 510);
        Due.is("move as the 512th call", after511().move(5, 1), 1);
        Due.is("undo as the 512th call", after511().undo(), 63);
        Due.is("put as the 512th call", after511().put(6, 0, 1), 2);
        Due.is("taken as the 512th call", after511().taken(0, 515), 5);
        Due.is("count(1) as the 512th call", after511().count(1), 64);
        SpanBook puts = new SpanBook();
        for (int i = 1; i <= 511; i++) {
            Due.is("put as call " + i, puts.put(5, 0, 1), i == 1 ? 1 : Due.NOT);
        }
        Due.is("put as the 512th put", puts.put(6, 0, 1), 2);
    }

    private static void laterCalls() {
        SpanBook x = after511();
        for (int number : new int[] {0, 1, -1, 47, 60, Due.LOW, Due.HIGH, Due.LEAST, Due.GREATEST}) {
            Call.each(x, number);
        }
        Due.holds("all later calls ended", true);
    }

    // ---- MEET, ORDER

    private static void spansMeet() {
        // two SPANS, and how many points both hold
        int[][] rows = {
            {0, 5, 5, 9, 0}, {0, 5, 4, 9, 1}, {0, 9, 3, 4, 1}, {0, 5, 0, 5, 5}, {0, 5, 6, 9, 0}, {0, 5, 0, 1, 1},
            {0, 5, 4, 5, 1}, {Due.LOW, 0, 0, Due.HIGH, 0}, {Due.LOW, 1, 0, Due.HIGH, 1},
            {Due.LOW, Due.HIGH, Due.LOW, Due.HIGH, 2000000000}, {Due.LOW, Due.LOW + 1, Due.HIGH - 1, Due.HIGH, 0}};
        for (int[] r : rows) {
            SpanBook x = Due.book(3, r[0], r[1], 4, r[2], r[3]);
            SpanBook turned = Due.book(4, r[0], r[1], 3, r[2], r[3]);
            String text = " of " + Call.text("spans", r);
            Due.is("clashes" + text, x.clashes(), r[4] > 0 ? 1 : 0);
            Due.is("clash(0, 2)" + text, x.clash(0, 2), r[4] > 0 ? r[4] : Due.NONE);
            Due.is("clash(0, 2) turned" + text, turned.clash(0, 2), r[4] > 0 ? r[4] : Due.NONE);
        }
    }

    private static void stretchMeets() {
        SpanBook x = Due.book(5, 10, 20);
        int[][] rows = {
            {9, 10, 0}, {9, 11, 1}, {10, 11, 1}, {14, 15, 1}, {19, 20, 1}, {20, 21, 0}, {19, 21, 1}, {0, 30, 1},
            {Due.LOW, 10, 0}, {Due.LOW, 11, 1}, {19, Due.HIGH, 1}, {20, Due.HIGH, 0}, {Due.LOW, Due.HIGH, 1}};
        for (int[] r : rows) {
            Due.is(Call.text("meets", r[0], r[1], Due.NONE), x.meets(r[0], r[1], Due.NONE), r[2]);
        }
    }

    private static void stretches() {
        int[][] allowed = {{Due.LOW, Due.LOW + 1}, {Due.HIGH - 1, Due.HIGH}, {Due.LOW, Due.HIGH}, {0, 1}};
        for (int[] s : allowed) {
            SpanBook x = Due.book(3, Due.LOW, Due.LOW + 1, 4, Due.HIGH - 1, Due.HIGH, 5, 0, 1);
            x.sheet(0, 0, 60);
            int due = s[1] - s[0] == 1 ? 1 : 3;
            Due.is(Call.text("meets", s), x.meets(s[0], s[1], Due.NONE), due);
            Due.is(Call.text("taken", s), x.taken(s[0], s[1]), due);
            Due.is(Call.text("write", s), x.write(s[0], s[1], 0), due);
            Due.is(Call.text("frees", s), x.frees(s[0], s[1]), due == 1 ? 0 : 2);
            Due.is(Call.text("free", s), x.free(s[0], s[1], 1, 0), due == 1 ? Due.LEAST : 1);
            Due.holds(Call.text("looks", s), x.looks(s[0], s[1]) >= due);
        }
        Refused.badStretches(Due.BAD, "looks", 0, 0);
        Refused.badStretches(Due.BAD, "meets", 0, 0, Due.NONE);
        Refused.badStretches(Due.BAD, "taken", 0, 0);
        Refused.badStretches(Due.BAD, "frees", 0, 0);
        Refused.badStretches(Due.LEAST, "free", 0, 0, 0, 0);
        Refused.badStretches(Due.BAD, "write", 0, 0, 3);
    }

    private static void stretchHolds() {
        SpanBook x = new SpanBook();
        Due.is("one point", x.free(7, 8, 0, 1) - x.free(7, 8, 0, 0), 1);
        Due.is("all of THE RANGE", x.free(Due.LOW, Due.HIGH, 0, 1) - x.free(Due.LOW, Due.HIGH, 0, 0), 2000000000);
        SpanBook all = Due.book(0, Due.LOW, Due.HIGH);
        Due.is("one point", all.taken(7, 8), 1);
        Due.is("its last point is b less 1", Due.book(0, 7, 8).taken(0, 7), 0);
        Due.is("its last point is b less 1", Due.book(0, 7, 8).taken(0, 8), 1);
        Due.is("its first point is a", Due.book(0, 7, 8).taken(7, 9), 1);
        Due.is("its first point is a", Due.book(0, 7, 8).taken(8, 9), 0);
    }

    private static void order() {
        // put in against their ORDER
        SpanBook x = Due.book(
            7, Due.HIGH - 1, Due.HIGH, 40, 5, 7, 9, 5, 7, 1, 5, 6, 30, Due.LOW, Due.HIGH, 2, Due.LOW, Due.LOW + 1,
            3, Due.LOW, Due.HIGH, 46, 4, 9);
        int[] due = {2, 3, 30, 46, 1, 9, 40, 7};
        for (int rank = 0; rank < due.length; rank++) {
            Due.is("ranked(" + rank + ")", x.ranked(rank), due[rank]);
        }
        Due.is("of like FROM by TO, whatever the KEYS", Due.book(1, 5, 7, 2, 5, 6).ranked(0), 2);
        Due.is("of like FROM by TO, at the ends of THE RANGE", Due.book(0, Due.LOW, Due.HIGH, 1, Due.LOW, Due.LOW + 1).ranked(0), 1);
        Due.is("by FROM, whatever TO", Due.book(1, 6, 7, 2, 5, 90).ranked(0), 2);
        SpanBook like = new SpanBook();
        for (int key = 47; key >= 0; key--) {
            like.put(key, 3, 4);
        }
        for (int key = 0; key < 48; key++) {
            Due.is("48 like ones, rank(" + key + ")", like.rank(key), key);
        }
    }

    private static void ranksFromZero() {
        Due.is("one SPAN", Due.book(47, 3, 4).rank(47), 0);
        SpanBook x = Due.all(0, 1, 1, 1);
        Due.is("the first of 48", x.rank(0), 0);
        Due.is("the last of 48", x.rank(47), 47);
    }

    // ---- THE TREE

    private static long weight(int key) {
        long whole = (key + 1L) * 40503L;
        return whole - 65536L * (whole / 65536L);
    }

    private static int heaviest(List<Integer> keys) {
        int best = keys.get(0);
        for (int key : keys) {
            best = weight(key) > weight(best) ? key : best;
        }
        return best;
    }

    private static List<Integer> keysUpTo(int last) {
        List<Integer> keys = new ArrayList<>();
        for (int key = 0; key <= last; key++) {
            keys.add(key);
        }
        return keys;
    }

    private static void weights() {
        // 40503 against 81006, that wraps to 15470; 47 has 1944144, that wraps to 43600
        Due.is("0 against 1", Due.book(1, 0, 1, 0, 0, 1).root(), 0);
        Due.is("47 against 0", Due.book(47, 0, 1, 0, 0, 1).root(), 47);
        SpanBook x = Due.all(0, 0, 1, 0);
        List<Integer> left = keysUpTo(47);
        for (int n = 47; n >= 0; n--) {
            Integer due = heaviest(left);
            Due.is("ROOT of " + (n + 1), x.root(), due);
            Due.is("drop(" + due + ")", x.drop(due), n);
            left.remove(due);
        }
    }

    private static void rootIsHeaviest() {
        Due.is("of none", new SpanBook().root(), Due.NONE);
        Due.is("of one", Due.book(12, 0, 1).root(), 12);
        SpanBook x = Due.all(0, 1, 100, 0);
        int due = heaviest(keysUpTo(47));
        Due.is("of all", x.root(), due);
        x.move(due, 900);
        Due.is("behind all", x.root(), due);
        x.move(due, -5000);
        Due.is("ahead of all", x.root(), due);
    }

    private static void leftAndRight() {
        SpanBook one = Due.book(33, 0, 1);
        Due.is("LEFT of one alone", one.tree(33, 1), Due.NONE);
        Due.is("RIGHT of one alone", one.tree(33, 2), Due.NONE);
        // of like ones ORDER is by KEY
        isTree(Due.all(0, 0, 1, 0), keysUpTo(47), Due.NONE);
    }

    /** Holds a book against what the sentence says of a part of ORDER. */
    private static void isTree(SpanBook x, List<Integer> part, int above) {
        if (part.isEmpty()) {
            return;
        }
        int root = heaviest(part);
        int at = part.indexOf(root);
        List<Integer> ahead = part.subList(0, at);
        List<Integer> behind = part.subList(at + 1, part.size());
        Due.is("above " + root, x.tree(root, 0), above);
        Due.is("LEFT of " + root, x.tree(root, 1), ahead.isEmpty() ? Due.NONE : heaviest(ahead));
        Due.is("RIGHT of " + root, x.tree(root, 2), behind.isEmpty() ? Due.NONE : heaviest(behind));
        Due.is("with all BELOW " + root, x.tree(root, 4), part.size());
        isTree(x, ahead, root);
        isTree(x, behind, root);
    }

    private static void below() {
        Due.is("none BELOW one alone", Due.book(33, 0, 1).tree(33, 4), 1);
        SpanBook x = Due.all(0, 0, 1, 0);
        int root = x.root();
        Due.is("all 48 with ROOT", x.tree(root, 4), 48);
        Due.is("LEFT and RIGHT", x.tree(x.tree(root, 1), 4) + x.tree(x.tree(root, 2), 4), 47);
    }

    private static void ends() {
        // 20 is heavier than 7, 7 than 3, 3 than 12
        Due.is("its own", Due.book(20, 0, 9, 7, -5, 1, 3, 1, 8).end(20), 9);
        Due.is("of its LEFT", Due.book(20, 0, 9, 7, -5, 10).end(20), 10);
        Due.is("of its RIGHT", Due.book(20, 0, 9, 7, 1, 10).end(20), 10);
        Due.is("of LEFT's RIGHT", Due.book(20, 0, 9, 7, -5, 1, 3, -4, 10).end(20), 10);
        Due.is("of RIGHT's LEFT", Due.book(20, 0, 9, 7, 5, 6, 3, 4, 10).end(20), 10);
        Due.is("not of who is above", Due.book(20, 0, 9, 7, 5, 6).end(7), 6);
        Due.is("of like ones", Due.book(20, 0, 9, 7, -5, 9).end(20), 9);
        Due.is("the least there can be", Due.book(20, Due.LOW, Due.LOW + 1, 7, Due.LOW, Due.LOW + 1).end(20), Due.LOW + 1);
        Due.is("the greatest there can be", Due.book(20, 0, 9, 7, -5, Due.HIGH).end(20), Due.HIGH);
        SpanBook x = Due.all(0, 0, 1, 1);
        Due.is("of all 48", x.end(x.root()), 48);
    }

    private static void looksAtRoot() {
        Due.is("without SPANS", new SpanBook().looks(Due.LOW, Due.HIGH), 0);
        SpanBook x = Due.book(20, 0, 9);
        Due.is("ahead of it", x.looks(-5, 0), 1);
        Due.is("behind it", x.looks(9, 10), 1);
        Due.is("it MEETS", x.looks(8, 9), 1);
        Due.is("at none that is not there", Due.book(0, -9, 9).looks(-5, 5), 1);
        x.put(7, 5, 6);
        Due.is("at another one", x.looks(0, 9), 2);
        x.drop(7);
        Due.is("no more at one that is taken out", x.looks(0, 9), 1);
    }

    private static void looksAtLeft() {
        SpanBook x = Due.book(20, 50, 60, 3, 0, 10);
        Due.is("END is a and 1", x.looks(9, 10), 2);
        Due.is("END is a", x.looks(10, 11), 1);
        Due.is("END is less than a", x.looks(11, 12), 1);
        Due.is("its FROM does not count", x.looks(Due.LOW, Due.LOW + 1), 2);
        SpanBook y = Due.book(20, 50, 60, 7, 0, 10, 3, -9, 5);
        Due.is("LEFT's LEFT, END is a and 1", y.looks(4, 5), 3);
        Due.is("LEFT's LEFT, END is a", y.looks(5, 6), 2);
        Due.is("none of them", y.looks(10, 11), 1);
    }

    private static void looksAtRight() {
        SpanBook x = Due.book(20, 50, 60, 3, 70, 80);
        Due.is("END is a and 1", x.looks(79, 90), 2);
        Due.is("END is a", x.looks(80, 90), 1);
        Due.is("FROM is b", x.looks(0, 50), 1);
        Due.is("FROM is b less 1", x.looks(0, 51), 2);
        SpanBook y = Due.book(20, 50, 60, 7, 70, 80, 3, 90, 100);
        Due.is("FROM of RIGHT is b", y.looks(0, 70), 2);
        Due.is("FROM of RIGHT is b less 1", y.looks(0, 71), 3);
        Due.is("none of them", y.looks(100, 101), 1);
        // 7 is LEFT of 20, 3 is RIGHT of 7
        SpanBook z = Due.book(20, 50, 60, 7, 0, 5, 3, 2, 10);
        Due.is("LEFT by its RIGHT's END", z.looks(9, 10), 3);
        Due.is("FROM of LEFT is b", z.looks(-5, 0), 2);
        Due.is("neither by END", z.looks(10, 11), 1);
    }

    private static void looksAtAllThatMeet() {
        SpanBook full = Kind.FULL.make();
        for (int a = -120; a < 260; a += 5) {
            int b = a + 1 + Math.floorMod(a, 7);
            int meeting = full.meets(a, b, Due.NONE);
            Due.holds(Call.text("looks", a, b) + " is less than " + meeting, full.looks(a, b) >= meeting);
        }
        Due.is("all 48", full.looks(Due.LOW, Due.HIGH), 48);
    }

    // ---- DONE

    private static void doneByEach() {
        SpanBook x = new SpanBook();
        Due.is("nothing", x.count(1), 0);
        x.put(3, 0, 10);
        Due.is("put", x.count(1), 1);
        x.move(3, 0);
        Due.is("move, by 0 too", x.count(1), 2);
        x.drop(3);
        Due.is("drop", x.count(1), 3);
        Due.row(x, 0, 2, 5, 6, 8, 8);
        x.copy(0, 0, 0, 1, 1);
        x.write(0, 9, 0);
        x.lose(0);
        Due.is("what is done to SHEETS is none", x.count(1), 3);
        x.undo();
        Due.is("undo is none", x.count(1), 2);
    }

    private static void doneByFill() {
        SpanBook x = new SpanBook();
        Due.row(x, 0, 2, 1, 2, 3, 4, 5, 6, 9);
        x.fill(0);
        Due.is("three SPANS", x.count(1), 3);
        x.undo();
        Due.is("the last by itself", x.count(0), 2);
        Due.row(x, 0, 2);
        x.fill(0);
        Due.is("fill() without SPANS", x.count(1), 2);
    }

    /** A put and so many moves less 1, each by 1. */
    private static SpanBook doneSoOften(int times) {
        SpanBook x = Due.book(5, 0, 10);
        for (int i = 1; i < times; i++) {
            x.move(5, 1);
        }
        return x;
    }

    private static void mostDone() {
        int[] times = {1, 63, 64, 65, 66, 128, 129};
        for (int n : times) {
            SpanBook x = doneSoOften(n);
            int kept = Math.min(n, 64);
            Due.is("count(1) after " + n, x.count(1), kept);
            for (int left = kept - 1; left >= 0; left--) {
                Due.is("undo() after " + n, x.undo(), left);
            }
            Due.is("undo() when all is undone, after " + n, x.undo(), Due.NOT);
            Due.is("what was forgotten stays, after " + n, x.span(5, 0), n <= 64 ? Due.LEAST : n - 65);
        }
        // fill() goes over the 64: of 50 and 30 the first 16 are forgotten
        SpanBook y = doneSoOften(50);
        int[] items = new int[60];
        for (int i = 0; i < 60; i++) {
            items[i] = i;
        }
        Due.row(y, 0, 0, items);
        Due.is("fill", y.fill(0), 30);
        Due.is("count(1)", y.count(1), 64);
        for (int left = 63; left >= 0; left--) {
            y.undo();
        }
        Due.is("one SPAN", y.count(0), 1);
        Due.is("15 moves stay", y.span(5, 0), 15);
    }

    // ---- SHEETS

    private static void sheetsLost() {
        for (int s = 0; s <= 3; s++) {
            Refused.found(Kind.NEW, Due.NULL, "lose", s);
            SpanBook x = new SpanBook();
            Due.is("sheet(" + s + ", ..)", x.sheet(s, 0, 5), 5);
            for (int t = 0; t <= 3; t++) {
                Due.is("lose(" + t + ")", x.lose(t), t == s ? 5 : Due.NULL);
            }
        }
        Refused.badBeyond(0, 0, 3, "sheet", 0, 0, 5);
        Refused.badBeyond(0, 0, 3, "lose", 0);
        Refused.badBeyond(0, 0, 3, "fill", 0);
        Refused.badBeyond(0, 0, 3, "lay", 0, 0, 0, 0);
        Refused.badAsLeastBeyond(0, 0, 3, "get", 0, 0, 0);
        Refused.badBeyond(0, 0, 3, "copy", 0, 0, 0, 0, 0);
        Refused.badBeyond(2, 0, 3, "copy", 0, 0, 0, 0, 0);
        Refused.badBeyond(2, 0, 3, "write", 0, 1, 0);
    }

    private static void forms() {
        int[] least = {-128, -32768, Due.LEAST};
        int[] greatest = {127, 32767, Due.GREATEST};
        for (int form = 0; form <= 2; form++) {
            SpanBook x = new SpanBook();
            Due.row(x, 0, form, least[form], greatest[form], least[form] - 1, greatest[form] + 1);
            Due.isRow("form " + form, x, 0, form, least[form], greatest[form], greatest[form], least[form]);
        }
        Refused.badBeyond(1, 0, 2, "sheet", 0, 0, 5);
        Refused.badBeyond(1, 0, 2, "lay", 0, 0, 0, 0);
        Refused.badAsLeastBeyond(1, 0, 2, "get", 0, 0, 0);
    }

    private static void items() {
        for (int form = 0; form <= 2; form++) {
            SpanBook x = new SpanBook();
            Due.is("no items", x.sheet(0, form, 0), 0);
            Due.is("item 0 of none", x.lay(0, form, 0, 1), Due.INDEX);
            Due.is("60 items", x.sheet(0, form, 60), 60);
            for (int i = 0; i < 60; i++) {
                Due.is("0 at first, item " + i, x.get(0, form, i), 0);
                Due.is("lay", x.lay(0, form, i, 100 - i), 1);
            }
            Due.is("item 59", x.get(0, form, 59), 41);
            Due.is("item 60 of 60", x.lay(0, form, 60, 1), Due.INDEX);
            Due.is("60 anew", x.sheet(0, form, 60), 60);
            Due.is("0 at first, anew", x.get(0, form, 0), 0);
            Due.is("0 at first, anew", x.get(0, form, 59), 0);
            Due.is("lose", x.lose(0), 60);
        }
        Refused.bad("sheet", 0, 0, 61);
        Refused.found(Kind.NEW, Due.SIZE, "sheet", 0, 0, -1);
    }
}
