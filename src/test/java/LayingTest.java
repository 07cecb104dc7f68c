import java.util.Arrays;
import java.util.List;

/** Promises 16 to 19: price, both, shortest, fit. */
final class LayingTest {
    private static final int BAD = TrailFinder.BAD, NONE = TrailFinder.NONE;
    private static final int LEAST = Integer.MIN_VALUE, MOST = Integer.MAX_VALUE;
    private static final Check check = new Check("LayingTest");

    public static void main(String[] args) {
        deedsAndRows();
        choices();
        besides();
        loops();
        greatestNumber();
        shortest();
        wrongNumbers();
        fit();
        fitOfMany();
        manyParts();
        againstRuns();
        check.end();
    }

    private static int trail(TrailFinder x, String letters) {
        int c = x.open();
        for (int i = 0; i < letters.length(); i++) x.add(c, letters.charAt(i) - 'a', 0, 0, 0);
        return c;
    }

    /** The price and the deeds that are both: a 1 for each of those, a 0 for each of the others. */
    private static void laid(String letters, String net, int price, String both) {
        TrailFinder x = new TrailFinder();
        int c = trail(x, letters);
        int p = PiecesTest.make(x, net);
        int number = 0;
        for (int i = 0; i < both.length(); i++) number += (both.charAt(i) - '0') * (32 >> i);
        check.due("price of " + letters + " on " + net, x.price(c, p), price);
        check.due("both of " + letters + " on " + net, x.both(c, p), number);
    }

    private static void deedsAndRows() {
        laid("", "-", 0, "");
        laid("", "a", 1, "");
        laid("a", "-", 1, "0");
        laid("abcdef", "-", 6, "000000");
        laid("a", "a", 0, "1");
        laid("a", "b", 2, "0");
        laid("abc", "a", 2, "100");
        laid("abc", "c", 2, "001");
        laid("aa", "a", 1, "10");
        laid("", "R(ab)", 2, "");
        laid("ab", "R(ab)", 0, "11");
        laid("abc", "R(ab)", 1, "110");
        laid("cab", "R(ab)", 1, "011");
        laid("acb", "R(ab)", 1, "101");
        laid("b", "R(ab)", 1, "1");
        laid("abcdef", "R(abcdef)", 0, "111111");
        laid("abcdef", "R(fedcba)", 10, "100000");
        laid("abcdef", "R(a-bR(cd)ef)", 0, "111111");
        laid("aba", "R(aa)", 1, "101");
        laid("ab", "R(abc)", 1, "11");
    }

    private static void choices() {
        laid("a", "C(ab)", 0, "1");
        laid("b", "C(ab)", 0, "1");
        laid("", "C(ab)", 1, "");
        laid("", "C(a-)", 0, "");
        laid("c", "C(a-)", 1, "0");
        laid("ab", "C(ab)", 1, "10");
        laid("ab", "C(R(ba)R(abcd))", 2, "11");
        laid("cd", "C(R(ab)R(cd))", 0, "11");
        laid("c", "C(R(ab)R(cd)e)", 1, "1");
        laid("ab", "R(C(ac)C(bd))", 0, "11");
    }

    private static void besides() {
        laid("ab", "B(ab)", 0, "11");
        laid("ba", "B(ab)", 0, "11");
        laid("", "B(ab)", 2, "");
        laid("acbd", "B(R(ab)R(cd))", 0, "1111");
        laid("cadb", "B(R(ab)R(cd))", 0, "1111");
        laid("bacd", "B(R(ab)R(cd))", 2, "1011");
        laid("dcba", "B(R(ab)R(cd))", 4, "1010");
        laid("aba", "B(ab)", 1, "110");
        laid("aa", "B(aa)", 0, "11");
        laid("fedcba", "B(abcdef)", 0, "111111");
        laid("cab", "R(B(ab)c)", 2, "011");
    }

    private static void loops() {
        laid("", "L(ab)", 1, "");
        laid("a", "L(ab)", 0, "1");
        laid("aba", "L(ab)", 0, "111");
        laid("ababa", "L(ab)", 0, "11111");
        laid("ab", "L(ab)", 1, "11");
        laid("abab", "L(ab)", 1, "1111");
        laid("aa", "L(ab)", 1, "11");
        laid("b", "L(ab)", 2, "1");
        laid("bb", "L(ab)", 3, "11");
        laid("aaaaaa", "L(a-)", 0, "111111");
        laid("", "L(-a)", 0, "");
        laid("aaaaaa", "L(-a)", 0, "111111");
        laid("abacad", "L(abcd)", 1, "111111");
        laid("abacaa", "L(abcd)", 1, "111111");
        laid("abc", "L(aR(bc))", 1, "111");
        laid("abcabc", "L(R(abc)-)", 0, "111111");
        laid("abba", "L(C(ab)-)", 0, "1111");
        laid("abcba", "L(L(ab)c)", 2, "11111");
        laid("abacab", "L(L(ab)c)", 1, "111111");
    }

    private static void greatestNumber() {
        laid("ba", "R(ab)", 2, "10");
        laid("ab", "C(ba)", 1, "10");
        laid("aab", "R(ab)", 1, "101");
        laid("abb", "R(ab)", 1, "110");
        laid("cba", "C(ab)", 2, "010");
        // All of the same price: a alone, b alone, b and more of the run besides.
        laid("ab", "C(aR(bc))", 1, "10");
        laid("ba", "C(aR(bc))", 1, "01");
        laid("ab", "C(R(bc)-)", 2, "01");
        laid("ab", "C(-R(bc))", 2, "01");
        laid("ab", "C(-R(ac))", 2, "10");
        laid("abc", "C(aR(bcd))", 2, "100");
        laid("fedcba", "R(abcdef)", 10, "100000");
    }

    private static void shortest() {
        String[] nets = {"a", "-", "R(abc)", "R(a-)", "C(aR(bc))", "C(R(ab)R(bc))", "C(-a)", "B(abR(cd))", "B(--)",
            "L(R(ab)c)", "L(-R(ab))", "L(aC(-b)c)", "R(aC(-b)L(R(cd)e))", "L(C(R(ab)a)-)"};
        int[] want = {1, 0, 3, 1, 1, 2, 0, 4, 0, 2, 0, 1, 3, 1};
        for (int i = 0; i < nets.length; i++) {
            TrailFinder x = new TrailFinder();
            check.due("shortest: " + nets[i], x.shortest(PiecesTest.make(x, nets[i])), want[i]);
        }
        TrailFinder x = new TrailFinder();
        check.due("shortest: no piece", x.shortest(0), BAD);
        x.deed(0);
        for (int p : new int[] {-1, 1, 200, LEAST, MOST}) check.due("shortest(" + p + ")", x.shortest(p), BAD);
    }

    private static void wrongNumbers() {
        TrailFinder x = new TrailFinder();
        trail(x, "ab");
        trail(x, "b");
        x.deed(0);
        x.drop(1, true);
        int[][] bad = {{-1, 0}, {2, 0}, {24, 0}, {1, 0}, {0, -1}, {0, 1}, {0, 200}, {MOST, 0}, {LEAST, 0}, {0, MOST},
            {0, LEAST}};
        for (int[] b : bad) {
            check.due("price(" + b[0] + ", " + b[1] + ")", x.price(b[0], b[1]), BAD);
            check.due("both(" + b[0] + ", " + b[1] + ")", x.both(b[0], b[1]), BAD);
        }
        check.due("price: good ones", x.price(0, 0), 1);
        check.due("both: good ones", x.both(0, 0), 32);
        x.drop(1, false);
        check.due("price: not dropped any more", x.price(1, 0), 2);
        check.due("both: not dropped any more", x.both(1, 0), 0);
        int[][] wrong = {{-1, 0}, {1, 0}, {0, -1}, {0, 4}, {MOST, 0}, {0, LEAST}, {0, MOST}};
        for (int[] b : wrong) check.due("fit(" + b[0] + ", " + b[1] + ")", x.fit(b[0], b[1]), BAD);
    }

    private static void fit() {
        TrailFinder x = new TrailFinder();
        int p = PiecesTest.make(x, "R(aC(b-))");
        check.due("fit: without trails, 0", x.fit(p, 0), 0);
        check.due("fit: without trails, 1", x.fit(p, 1), 0);
        check.due("fit: without trails, 2", x.fit(p, 2), 0);
        check.due("fit: without trails, 3", x.fit(p, 3), NONE);
        trail(x, "ab");
        check.due("fit: the first, with price 0", x.fit(p, 3), 0);
        trail(x, "a");
        trail(x, "ccb");
        trail(x, "");
        trail(x, "bcc");
        // Prices 0, 0, 3, 1, 3; deeds 2, 1, 3, 0, 3; a run has 1 at least.
        check.due("fit: 0", x.fit(p, 0), 2);
        check.due("fit: 1", x.fit(p, 1), 7);
        check.due("fit: 2", x.fit(p, 2), 14);
        check.due("fit: 3, the first of two", x.fit(p, 3), 2);
        x.drop(2, true);
        check.due("fit: 3, the other of two", x.fit(p, 3), 4);
        check.due("fit: 1, one dropped", x.fit(p, 1), 4);
        check.due("fit: 2, one dropped", x.fit(p, 2), 10);
        x.drop(0, true);
        check.due("fit: 0, two dropped", x.fit(p, 0), 1);
        x.drop(1, true);
        x.drop(3, true);
        x.drop(4, true);
        check.due("fit: 3, all dropped", x.fit(p, 3), NONE);
        check.due("fit: 2, all dropped", x.fit(p, 2), 0);
    }

    private static void fitOfMany() {
        TrailFinder x = new TrailFinder();
        for (int c = 0; c < 24; c++) trail(x, "abcdef".substring(0, c % 7));
        int p = PiecesTest.make(x, "R(abc)");
        int[] prices = {3, 2, 1, 0, 1, 2, 3};
        int together = 0;
        int deeds = 0;
        for (int c = 0; c < 24; c++) {
            together += prices[c % 7];
            deeds += c % 7;
        }
        check.due("fit of 24: 0", x.fit(p, 0), 3);
        check.due("fit of 24: 1", x.fit(p, 1), together);
        check.due("fit of 24: 2", x.fit(p, 2), deeds + 72);
        check.due("fit of 24: 3", x.fit(p, 3), 0);
    }

    private static void manyParts() {
        TrailFinder x = new TrailFinder();
        trail(x, "aabbaa");
        x.deed(0);
        x.deed(1);
        int p = x.join(4, 0, 1);
        while (x.piece(p, 3) < 60) p = x.more(p, 0);
        check.due("59 beside: size", x.piece(p, 3), 60);
        check.due("59 beside: price", x.price(0, p), 55);
        check.due("59 beside: both", x.both(0, p), 32 + 16 + 8 + 2 + 1);
        check.due("59 beside: shortest", x.shortest(p), 59);
        TrailFinder y = new TrailFinder();
        trail(y, "abc");
        y.deed(0);
        y.deed(1);
        y.deed(2);
        p = y.join(5, 0, 1);
        while (y.piece(p, 3) < 59) p = y.join(5, p, 2);
        // Of abaca, say: the latter two a are in the run alone.
        check.due("29 loops: price", y.price(0, p), 2);
        check.due("29 loops: both", y.both(0, p), 32 + 16 + 8);
    }

    // ---- against all runs that a short trail can want

    private static final String[] NETS = {"R(aC(bL(a-)))", "B(R(ab)C(a-)b)", "L(C(aR(ab))bC(-a))", "L(B(ab)L(ab))",
        "C(R(aab)B(abL(ba)))", "R(L(ab)L(ba))", "L(-C(aR(ba)))", "B(L(ab)L(b-))", "R(C(-a)C(-b)C(-a)C(-b))"};

    private static void againstRuns() {
        for (String net : NETS) {
            TrailFinder x = new TrailFinder();
            int p = PiecesTest.make(x, net);
            List<String> runs = List.copyOf(Runs.of(x, p, 9));
            int cases = 0;
            for (String letters : allTrails()) {
                if (cases == 24) {
                    x = new TrailFinder();
                    p = PiecesTest.make(x, net);
                    cases = 0;
                }
                int c = trail(x, letters);
                cases++;
                int[] want = Runs.best(letters, runs);
                check.due("price of " + letters + " on " + net, x.price(c, p), want[0]);
                check.due("both of " + letters + " on " + net, x.both(c, p), want[1]);
            }
        }
    }

    private static List<String> allTrails() {
        String[] all = new String[31];
        for (int i = 0; i < 31; i++) {
            StringBuilder text = new StringBuilder();
            for (int bits = i + 1; bits > 1; bits >>= 1) text.append((char) ('a' + (bits & 1)));
            all[i] = text.toString();
        }
        return Arrays.asList(all);
    }
}
