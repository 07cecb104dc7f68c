/** Promises 9 to 14: deed, join, more, piece, plain, like. */
final class PiecesTest {
    private static final int BAD = TrailFinder.BAD, FULL = TrailFinder.FULL, NONE = TrailFinder.NONE;
    private static final int LEAST = Integer.MIN_VALUE, MOST = Integer.MAX_VALUE;
    private static final Check check = new Check("PiecesTest");

    public static void main(String[] args) {
        deed();
        join();
        joinFull();
        more();
        piece();
        plain();
        plainKeeps();
        plainOrder();
        plainFull();
        like();
        check.end();
    }

    private static void deed() {
        TrailFinder x = new TrailFinder();
        for (int name = 0; name < 12; name++) {
            check.due("deed(" + name + ")", x.deed(name), name);
            check.due("deed: kind", x.piece(name, 0), 0);
            check.due("deed: name", x.piece(name, 1), name);
            check.due("deed: parts", x.piece(name, 2), 0);
            check.due("deed: size", x.piece(name, 3), 1);
        }
        check.due("deed(-1)", x.deed(-1), 12);
        check.due("silent: kind", x.piece(12, 0), 1);
        check.due("silent: name", x.piece(12, 1), NONE);
        check.due("silent: parts", x.piece(12, 2), 0);
        check.due("silent: size", x.piece(12, 3), 1);
        for (int name : new int[] {-2, -3, 12, LEAST, MOST}) check.due("deed(" + name + ")", x.deed(name), BAD);
        check.due("deed: the same again is another", x.deed(0), 13);
        for (int p = 14; p < 200; p++) check.due("deed: piece " + p, x.deed(3), p);
        TrailFinder y = new TrailFinder();
        for (int p = 0; p < 199; p++) y.deed(3);
        check.due("join: the last", y.join(5, 0, 0), 199);
        check.due("deed: full", x.deed(3), FULL);
        check.due("deed: full, silent", x.deed(-1), FULL);
        check.due("deed: bad, though full", x.deed(12), BAD);
        check.due("deed: 200", x.count(4), 200);
    }

    private static void join() {
        TrailFinder x = new TrailFinder();
        x.deed(4);
        x.deed(-1);
        for (int kind = 2; kind <= 5; kind++) {
            check.due("join(" + kind + ", 1, 0)", x.join(kind, 1, 0), kind);
            check.due("join: kind", x.piece(kind, 0), kind);
            check.due("join: name", x.piece(kind, 1), NONE);
            check.due("join: parts", x.piece(kind, 2), 2);
            check.due("join: size", x.piece(kind, 3), 3);
            check.due("join: first part", x.piece(kind, 4), 1);
            check.due("join: second part", x.piece(kind, 5), 0);
            check.due("join: no third part", x.piece(kind, 6), NONE);
        }
        check.due("join: one part twice", x.join(2, 5, 5), 6);
        check.due("join: its size", x.piece(6, 3), 7);
        int[][] bad = {{0, 0, 0}, {1, 0, 0}, {6, 0, 0}, {-1, 0, 0}, {MOST, 0, 0}, {LEAST, 0, 0},
            {2, -1, 0}, {2, 0, -1}, {2, 7, 0}, {2, 0, 7}, {5, MOST, 0}, {5, 0, MOST}, {5, LEAST, 0}, {5, 0, LEAST},
            {3, 200, 0}, {3, 0, 200}};
        for (int[] b : bad) {
            check.due("join(" + b[0] + ", " + b[1] + ", " + b[2] + ")", x.join(b[0], b[1], b[2]), BAD);
        }
        check.due("join: nothing came", x.count(4), 7);
    }

    private static void joinFull() {
        TrailFinder x = new TrailFinder();
        x.deed(0);
        for (int size = 3; size <= 59; size += 2) x.join(2, x.count(4) - 1, 0);
        int last = x.count(4) - 1;
        check.due("join: size 59", x.piece(last, 3), 59);
        check.due("join: size 61", x.join(2, last, 0), FULL);
        check.due("join: size 61, the other way", x.join(2, 0, last), FULL);
        check.due("join: nothing of it comes", x.count(4), last + 1);
        check.due("join: bad, though above size", x.join(6, last, 0), BAD);
        check.due("more: size 60", x.more(last, 0), last + 1);
        check.due("more: its size", x.piece(last + 1, 3), 60);
        check.due("more: size 61", x.more(last + 1, 0), FULL);
        check.due("more: size 118", x.more(last, last), FULL);
        check.due("join: size 119", x.join(3, last, last), FULL);
        check.due("join: 59 and 0", x.count(4), last + 2);
        // 1 and 29 and 30 are 60.
        TrailFinder y = new TrailFinder();
        y.deed(0);
        y.join(2, 0, 0);
        while (y.piece(y.count(4) - 1, 3) < 29) y.more(y.count(4) - 1, 0);
        int p29 = y.count(4) - 1;
        int p30 = y.more(p29, 0);
        check.due("join: 29 and 30 make 60", y.piece(y.join(4, p29, p30), 3), 60);
        check.due("join: 30 and 30 make 61", y.join(4, p30, p30), FULL);
        while (y.count(4) < 198) y.deed(1);
        check.due("join: the last but one", y.join(2, 0, 0), 198);
        check.due("more: the last", y.more(1, 0), 199);
        check.due("join: 200", y.join(2, 0, 0), FULL);
        check.due("join: bad, though 200", y.join(2, 0, 200), BAD);
        check.due("more: 200", y.more(1, 0), FULL);
        check.due("more: bad, though 200", y.more(0, 0), BAD);
    }

    private static void more() {
        TrailFinder x = new TrailFinder();
        x.deed(0);
        x.deed(1);
        x.deed(-1);
        for (int kind = 2; kind <= 5; kind++) {
            int two = x.join(kind, 0, 1);
            int three = x.more(two, 2);
            check.due("more: number", three, two + 1);
            check.due("more: kind", x.piece(three, 0), kind);
            check.due("more: name", x.piece(three, 1), NONE);
            check.due("more: parts", x.piece(three, 2), 3);
            check.due("more: size", x.piece(three, 3), 4);
            check.due("more: part 0", x.piece(three, 4), 0);
            check.due("more: part 1", x.piece(three, 5), 1);
            check.due("more: part 2", x.piece(three, 6), 2);
            check.due("more: part 3", x.piece(three, 7), NONE);
            check.due("more: the first one stays", x.piece(two, 2), 2);
        }
        check.due("more: itself behind", x.more(3, 3), 11);
        check.due("more: its last part", x.piece(11, 6), 3);
        check.due("more: its size", x.piece(11, 3), 6);
        int[][] bad = {{0, 0}, {2, 0}, {-1, 0}, {12, 0}, {3, -1}, {3, 12}, {MOST, 0}, {3, MOST}, {LEAST, 0}, {3, LEAST}};
        for (int[] b : bad) check.due("more(" + b[0] + ", " + b[1] + ")", x.more(b[0], b[1]), BAD);
        check.due("more: nothing came", x.count(4), 12);
    }

    private static void piece() {
        TrailFinder x = new TrailFinder();
        x.deed(7);
        int p = x.join(3, 0, 0);
        while (x.piece(p, 3) < 60) p = x.more(p, 0);
        check.due("piece: 59 parts", x.piece(p, 2), 59);
        for (int what = 4; what <= 62; what++) check.due("piece(p, " + what + ")", x.piece(p, what), 0);
        check.due("piece(p, 63)", x.piece(p, 63), BAD);
        check.due("piece(0, 4)", x.piece(0, 4), NONE);
        check.due("piece(0, 62)", x.piece(0, 62), NONE);
        int[][] bad = {{0, 63}, {0, -1}, {0, MOST}, {0, LEAST}, {-1, 0}, {p + 1, 0}, {p + 1, 4}, {200, 0},
            {MOST, 0}, {LEAST, 0}};
        for (int[] b : bad) check.due("piece(" + b[0] + ", " + b[1] + ")", x.piece(b[0], b[1]), BAD);
    }

    // ---- plain: pieces are made from texts, and told as texts

    /** a to l a deed, - silent, R C B L with parts in brackets: R(ab-). */
    private static final class Maker {
        private final TrailFinder x;
        private final String text;
        private int at;

        Maker(TrailFinder x, String text) {
            this.x = x;
            this.text = text;
        }

        int make() {
            char sign = text.charAt(at++);
            if (sign == '-') return x.deed(-1);
            int kind = "..RCBL".indexOf(sign);
            if (kind < 0) return x.deed(sign - 'a');
            at++;
            int first = make();
            int made = x.join(kind, first, make());
            while (text.charAt(at) != ')') made = x.more(made, make());
            at++;
            return made;
        }
    }

    static int make(TrailFinder x, String text) {
        return new Maker(x, text).make();
    }

    static String text(TrailFinder x, int p) {
        int kind = x.piece(p, 0);
        if (kind < 0) return "BAD";
        if (kind == 0) return "" + (char) ('a' + x.piece(p, 1));
        if (kind == 1) return "-";
        StringBuilder text = new StringBuilder().append("..RCBL".charAt(kind)).append('(');
        for (int i = 0; i < x.piece(p, 2); i++) text.append(text(x, x.piece(p, 4 + i)));
        return text.append(')').toString();
    }

    /** The plain one, whose pieces are new and stand part by part, each whole, with none between. */
    private static void plain(String from, String to) {
        TrailFinder x = new TrailFinder();
        int p = make(x, from);
        int before = x.count(4);
        int q = x.plain(p);
        String got = text(x, q);
        check.due("plain of " + from + " is " + got + ", due is " + to, got.equals(to));
        check.due("plain of " + from + ": size", x.piece(q, 3), x.count(4) - before);
        check.due("plain of " + from + ": the last one", q, x.count(4) - 1);
        check.due("plain of " + from + ": whole parts", wholeFrom(x, q, before));
        check.due("plain of " + from + ": like", x.like(p, q), from.equals(to) ? 1 : 0);
    }

    private static boolean wholeFrom(TrailFinder x, int p, int from) {
        boolean whole = p == from + x.piece(p, 3) - 1;
        int next = from;
        for (int i = 0; i < x.piece(p, 2); i++) {
            int part = x.piece(p, 4 + i);
            whole = whole && wholeFrom(x, part, next);
            next += x.piece(part, 3);
        }
        return whole;
    }

    private static void plain() {
        plain("a", "a");
        plain("-", "-");
        plain("R(ab)", "R(ab)");
        plain("R(ba)", "R(ba)");
        plain("R(aa)", "R(aa)");
        plain("R(a-)", "a");
        plain("R(-a-b-)", "R(ab)");
        plain("R(--)", "-");
        plain("B(--)", "-");
        plain("B(-a)", "a");
        plain("B(b-a)", "B(ab)");
        plain("B(aa)", "B(aa)");
        plain("C(a-)", "C(a-)");
        plain("C(-a)", "C(a-)");
        plain("C(--)", "-");
        plain("C(aa)", "a");
        plain("C(baab)", "C(ab)");
        plain("L(--)", "L(--)");
        plain("L(aa)", "L(aa)");
        plain("L(aaa)", "L(aaa)");
        plain("L(ba)", "L(ba)");
        plain("L(cba)", "L(cab)");
        plain("L(-ba-)", "L(-ab-)");
        plain("R(R(ab)R(cd))", "R(abcd)");
        plain("R(R(aR(bc))d)", "R(abcd)");
        plain("C(C(ba)C(cb))", "C(abc)");
        plain("B(B(ba)B(ca))", "B(aabc)");
        plain("L(L(ab)L(ab))", "L(L(ab)L(ab))");
        plain("R(B(ab)C(ab))", "R(B(ab)C(ab))");
        plain("B(R(ab)R(ab))", "B(R(ab)R(ab))");
        plain("C(R(ab)R(ab))", "R(ab)");
        plain("R(C(R(ab)R(ab))c)", "R(abc)");
        plain("C(R(a-)a)", "a");
        plain("B(R(--)C(--))", "-");
        plain("R(B(a-)B(-b))", "R(ab)");
        plain("B(C(B(ab)B(ba))c)", "B(abc)");
        plain("C(R(C(ab)-)c)", "C(abc)");
        plain("C(R(--)-a)", "C(a-)");
        plain("R(L(--)-)", "L(--)");
        plain("L(R(a-)R(--)B(c-))", "L(ac-)");
    }

    private static void plainKeeps() {
        TrailFinder x = new TrailFinder();
        int p = make(x, "R(a-R(bc))");
        int before = x.count(4);
        check.due("plain: number", x.plain(p), before + 3);
        check.due("plain: first part", x.piece(before, 1), 0);
        check.due("plain: second part", x.piece(before + 1, 1), 1);
        check.due("plain: third part", x.piece(before + 2, 1), 2);
        check.due("plain: the old one stays", text(x, p).equals("R(a-R(bc))"));
        int twice = x.join(4, 0, 0);
        int q = x.plain(twice);
        check.due("plain: one for each place", x.piece(q, 4) != x.piece(q, 5));
        for (int bad : new int[] {-1, q + 1, 200, LEAST, MOST}) check.due("plain(" + bad + ")", x.plain(bad), BAD);
        check.due("plain: nothing came", x.count(4), q + 1);
    }

    /** The lesser kind, then the lesser name, then the fewer parts, then the first unlike parts. */
    private static void plainOrder() {
        plain("C(L(ab)B(ab)R(ab)-a)", "C(a-R(ab)B(ab)L(ab))");
        plain("B(L(ab)C(ab)R(ab)a)", "B(aR(ab)C(ab)L(ab))");
        plain("C(lkba)", "C(abkl)");
        plain("C(R(abc)R(la))", "C(R(la)R(abc))");
        plain("C(R(ac)R(ab))", "C(R(ab)R(ac))");
        plain("C(R(bc)R(ad))", "C(R(ad)R(bc))");
        plain("C(R(aL(bc))R(aB(bc)))", "C(R(aB(bc))R(aL(bc)))");
        plain("C(R(aB(bd))R(aB(bc))R(aB(bcd)))", "C(R(aB(bc))R(aB(bd))R(aB(bcd)))");
        plain("C(R(B(ba)c)R(B(ab)a))", "C(R(B(ab)a)R(B(ab)c))");
        plain("L(bL(ab)R(ba)R(ab)b)", "L(bbR(ab)R(ba)L(ab))");
        plain("C(L(ba)L(ac)L(ab))", "C(L(ab)L(ac)L(ba))");
    }

    private static void plainFull() {
        TrailFinder x = new TrailFinder();
        int p = make(x, "R(a-R(bc))");
        while (x.count(4) < 196) x.deed(0);
        check.due("plain: it just fits", x.plain(p), 199);
        check.due("plain: 200", x.count(4), 200);
        check.due("plain: full", x.plain(0), FULL);
        check.due("plain: bad, though full", x.plain(200), BAD);
        TrailFinder y = new TrailFinder();
        p = make(y, "R(a-R(bc))");
        while (y.count(4) < 197) y.deed(0);
        check.due("plain: one too many", y.plain(p), FULL);
        check.due("plain: nothing of it comes", y.count(4), 197);
        check.due("plain: a lesser one still fits", y.plain(0), 197);
    }

    private static void like() {
        String[] texts = {"a", "b", "-", "R(ab)", "R(ba)", "C(ab)", "B(ab)", "L(ab)", "R(abc)", "R(aR(bc))",
            "R(aR(bd))", "R(R(ab)c)", "R(a-)", "L(aab)", "L(aba)"};
        for (int i = 0; i < texts.length; i++) {
            for (int j = 0; j < texts.length; j++) {
                TrailFinder x = new TrailFinder();
                int p = make(x, texts[i]);
                int q = make(x, texts[j]);
                check.due("like: " + texts[i] + ", " + texts[j], x.like(p, q), i == j ? 1 : 0);
            }
        }
        TrailFinder x = new TrailFinder();
        x.deed(0);
        check.due("like: itself", x.like(0, 0), 1);
        int[][] bad = {{-1, 0}, {0, -1}, {1, 0}, {0, 1}, {MOST, 0}, {0, MOST}, {LEAST, 0}, {0, LEAST}, {1, 1}};
        for (int[] b : bad) check.due("like(" + b[0] + ", " + b[1] + ")", x.like(b[0], b[1]), BAD);
    }
}
