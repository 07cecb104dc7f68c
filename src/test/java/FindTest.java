/** Promise 15: find, cut by cut. */
final class FindTest {
    private static final int FULL = TrailFinder.FULL;
    private static final Check check = new Check("FindTest");

    public static void main(String[] args) {
        withoutCuts();
        choice();
        row();
        beside();
        loop();
        flower();
        deeper();
        pieces();
        dropped();
        full();
        check.end();
    }

    private static TrailFinder logOf(String... trails) {
        TrailFinder x = new TrailFinder();
        for (String trail : trails) {
            int c = x.open();
            for (int i = 0; i < trail.length(); i++) x.add(c, trail.charAt(i) - 'a', 0, 0, 0);
        }
        return x;
    }

    /** Texts as in PiecesTest: a to l a deed, - silent, R C B L with parts in brackets. */
    private static void found(String net, String... trails) {
        TrailFinder x = logOf(trails);
        int p = x.find();
        String got = PiecesTest.text(x, p);
        check.due("for " + String.join(" ", trails) + " " + got + " is found, due is " + net, got.equals(net));
        check.due("the last piece for " + String.join(" ", trails), p, x.count(4) - 1);
        check.due("all pieces for " + String.join(" ", trails), x.piece(p, 3), x.count(4));
    }

    private static void withoutCuts() {
        found("-");
        found("-", "");
        found("-", "", "");
        found("a", "a");
        found("l", "l", "l");
        found("C(-a)", "a", "");
        found("C(-a)", "", "a", "");
        found("L(a-)", "aa");
        found("L(a-)", "a", "aaa");
        found("C(-L(a-))", "aa", "");
    }

    private static void choice() {
        found("C(ab)", "b", "a");
        found("C(abc)", "c", "b", "a");
        found("C(-C(ab))", "b", "a", "");
        found("C(R(ad)R(bc))", "bc", "ad");
        found("C(R(da)R(cb))", "cb", "da");
        found("C(L(a-)b)", "b", "aa", "b");
    }

    private static void row() {
        found("R(ab)", "ab");
        found("R(ba)", "ba");
        found("R(lka)", "lka");
        found("R(aC(-b)c)", "abc", "ac");
        found("R(aC(bc)d)", "abd", "acd");
        found("R(dC(bc)a)", "dba", "dca");
        found("R(aL(b-))", "abb");
        found("R(aB(bc)d)", "abcd", "acbd");
        // a reaches c through b; b and d neither one the other, so that they are together.
        found("R(aC(bd)c)", "abc", "adc");
        // b and c reach one another through d: bcd are together, behind a.
        found("R(aL(bR(cd)))", "abcdb", "ab");
        // Through what a name reaches: a, b, c, d one behind the other, though no trail has all.
        found("R(C(-a)C(-b)C(-c)C(-d))", "ab", "bc", "cd");
    }

    private static void beside() {
        found("B(ab)", "ab", "ba");
        found("B(abc)", "abc", "acb", "bac", "bca", "cab", "cba");
        found("B(aR(bc))", "abc", "bac", "bca");
        found("B(L(a-)C(-b))", "ab", "ba", "aa");
        found("B(C(-L(a-))L(b-))", "aab", "bba", "b");
        found("B(L(a-)L(b-))", "aba", "bab");
        // Parts by their least names: b with d, ahead of c.
        found("B(aR(db)c)", "adbc", "acdb", "cadb", "dcba", "dabc", "dbca");
        // b begins none, so there is no such cut, and no loop either: a flower.
        found("L(C(ab)-)", "ab", "aba");
        // b ends none.
        found("L(C(ab)-)", "ba", "aba");
        // c neither begins nor ends one: a loop, with what is beside in its body.
        found("L(B(C(-a)C(-b))c)", "acb", "bca", "ab", "ba");
    }

    private static void loop() {
        found("L(ab)", "aba");
        found("L(ab)", "aba", "a", "ababa");
        found("L(R(ab)c)", "abcab", "ab");
        found("L(abc)", "aba", "aca");
        found("L(abcd)", "aba", "ada", "aca");
        found("L(cab)", "cac", "cbc");
        found("L(R(ab)R(cd))", "abcdab");
        found("L(aL(b-))", "abba");
        found("L(aR(bc))", "abca");
        found("L(aR(cb))", "acba");
        found("L(L(a-)b)", "aaba", "a");
        // The stretches of the body: ab, then cb; and those of the rest: d, then d.
        found("L(R(C(ac)b)d)", "abdcb", "cbdab");
        // c follows a, of the body, that ends none: c goes to the body, and nothing is left.
        found("L(C(abc)-)", "abacab");
        found("L(C(abc)-)", "bcbabc");
        // c is followed by b, of the body, that begins none.
        found("L(C(abc)-)", "abcbab");
        // c follows b that ends some, but not d that ends some too.
        found("L(C(abcd)-)", "abcad", "adab");
        // c is followed by a that begins some, but not by b that begins some too.
        found("L(C(abcd)-)", "adcad", "bd", "abd", "bad");
        // d goes to the body as d follows a, that ends none; c stays.
        found("L(R(aC(-d)b)c)", "adbcab");
        // Two ways to go, and one part that stays.
        found("L(R(aC(-C(de))b)c)", "adbcab", "aebcab");
    }

    private static void flower() {
        found("L(C(ab)-)", "ba", "aba", "a");
        found("L(C(abc)-)", "ba", "aca", "abcba");
        found("L(C(bkl)-)", "lbkblk", "bl");
    }

    private static void deeper() {
        found("C(-R(aB(bC(-c))d))", "abcd", "acbd", "abd", "");
        found("R(aL(B(bc)d))", "abcdcb", "acbdbc");
        found("C(R(abc)L(de))", "abc", "ded", "d");
        found("L(abc)", "abaca");
        found("C(-C(L(C(ab)-)L(cd)))", "ab", "aba", "", "cdc");
        // Eleven cuts, one within the other, until a name is alone.
        found("C(aR(bC(cR(dC(eR(fC(gR(hC(iR(jC(kl)))))))))))",
            "a", "bc", "bde", "bdfg", "bdfhi", "bdfhjk", "bdfhjl");
    }

    /** Part by part, each whole; deeds, choice, silent, loop of a flower; silent ahead. */
    private static void pieces() {
        TrailFinder x = logOf("aba", "ab", "");
        x.deed(5);
        check.due("flower with an empty trail", x.find(), 7);
        int[] kinds = {0, 1, 0, 0, 3, 1, 5, 3};
        int[] names = {5, -3, 0, 1, -3, -3, -3, -3};
        for (int p = 0; p < 8; p++) {
            check.due("flower: kind of " + p, x.piece(p, 0), kinds[p]);
            check.due("flower: name of " + p, x.piece(p, 1), names[p]);
        }
        check.due("flower: loop's first", x.piece(6, 4), 4);
        check.due("flower: loop's second", x.piece(6, 5), 5);
        check.due("flower: choice's first", x.piece(7, 4), 1);
        check.due("flower: choice's second", x.piece(7, 5), 6);
        TrailFinder y = logOf("abb", "acb");
        check.due("row: number", y.find(), 7);
        check.due("row: text", PiecesTest.text(y, 7).equals("R(aC(-c)L(b-))"));
        int[] of = {0, 1, 0, 3, 0, 1, 5, 2};
        for (int p = 0; p < 8; p++) check.due("row: kind of " + p, y.piece(p, 0), of[p]);
    }

    private static void dropped() {
        TrailFinder x = logOf("ab", "ba");
        x.drop(1, true);
        check.due("dropped: row", PiecesTest.text(x, x.find()).equals("R(ab)"));
        x.drop(1, false);
        check.due("not dropped: beside", PiecesTest.text(x, x.find()).equals("B(ab)"));
        x.drop(1, true);
        check.due("dropped again: row", PiecesTest.text(x, x.find()).equals("R(ab)"));
        x.drop(0, true);
        x.drop(1, true);
        check.due("all dropped: silent", PiecesTest.text(x, x.find()).equals("-"));
        check.due("earlier ones stay", PiecesTest.text(x, 2).equals("R(ab)"));
        x.drop(0, false);
        x.cut(0);
        check.due("cut: deed", PiecesTest.text(x, x.find()).equals("a"));
    }

    private static void full() {
        // Each name of twelve in a row may be missing and may come again: 12 times 5, and the row.
        String[] trails = {"aabbcc", "cddeef", "ffgghh", "hiijjk", "kkll"};
        TrailFinder x = logOf(trails);
        check.due("size 61", x.find(), FULL);
        check.due("nothing of it comes", x.count(4), 0);
        check.due("the next piece is 0", x.deed(0), 0);
        x.cut(4);
        check.due("size 59", x.find(), 59);
        check.due("its size", x.piece(59, 3), 59);
        TrailFinder y = logOf("ab");
        while (y.count(4) < 197) y.deed(0);
        check.due("it just fits", y.find(), 199);
        check.due("full", y.find(), FULL);
        TrailFinder z = logOf("ab");
        while (z.count(4) < 198) z.deed(0);
        check.due("one too many", z.find(), FULL);
        check.due("nothing of that comes", z.count(4), 198);
        z.drop(0, true);
        check.due("silent still fits", z.find(), 198);
    }
}
