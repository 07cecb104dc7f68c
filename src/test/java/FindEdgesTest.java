/** Promise 15 and part 4 of the document at their edges: each test names the words that it holds. */
final class FindEdgesTest {
    private static final int FULL = Edges.FULL, NONE = Edges.NONE;
    private static final Check check = new Check("FindEdgesTest");

    public static void main(String[] args) {
        noTrails();
        allEmpty();
        someEmpty();
        silentAhead();
        oneName();
        oneNamePieces();
        firstCutThatGivesMore();
        choiceOfNames();
        choiceParts();
        rowOfNames();
        rowTogether();
        rowOrder();
        rowMayBeEmpty();
        besideEachFollows();
        besideBeginsAndEnds();
        besideMayBeEmpty();
        besideOfSix();
        loopBody();
        loopTogether();
        loopFollowsOneThatEndsNone();
        loopIsFollowedByOneThatBeginsNone();
        loopFollowsNotAllEnds();
        loopIsFollowedByNotAllBegins();
        loopWithoutGap();
        loopParts();
        loopNoneLeft();
        flowerOfTwelve();
        flowerPieces();
        deeds();
        inTheLog();
        oneBehindAnother();
        deepest();
        fullOf200();
        fullOfSize();
        fullWithSilent();
        check.end();
    }

    /** What is found as a text (as in PiecesTest); all that came are its pieces, and each trail lies on it. */
    private static void found(String net, String... trails) {
        TrailFinder x = Edges.log(trails);
        int p = x.find();
        String call = "find for " + String.join(" ", trails);
        String got = PiecesTest.text(x, p);
        check.due(call + " answers " + got + ", due is " + net, got.equals(net));
        check.due(call + ": its number", p, x.piece(p, 3) - 1);
        check.due(call + ": all that came", x.count(4), p + 1);
        check.due(call + ": each trail lies on it", x.fit(p, 0), trails.length);
    }

    // ---- rules 1 to 3

    /** "1 .. or there are none: SILENT": no CASES, or all of them DROPPED. */
    private static void noTrails() {
        found("-");
        TrailFinder x = Edges.logOf24("ab");
        Edges.dropAll(x);
        check.due("all dropped: number", x.find(), 0);
        check.due("all dropped: silent", x.piece(0, 0), 1);
        check.due("all dropped: one piece", x.count(4), 1);
        check.due("all dropped: again", x.find(), 1);
    }

    /** "1 all TRAILS are empty": one, 24, and such as were emptied. */
    private static void allEmpty() {
        found("-", "");
        TrailFinder x = Edges.logOf24("");
        check.due("24 empty: silent", x.piece(x.find(), 0), 1);
        TrailFinder y = Edges.log("a", "a");
        y.cut(0);
        y.cut(1);
        check.due("emptied: silent", y.piece(y.find(), 0), 1);
        TrailFinder z = Edges.log("", "a");
        z.drop(1, true);
        check.due("all but a dropped one: silent", z.piece(z.find(), 0), 1);
    }

    /** "2 some are: CHOICE of SILENT and what is FOUND for those that are not." */
    private static void someEmpty() {
        found("C(-a)", "", "a");
        found("C(-a)", "a", "");
        found("C(-a)", "", "a", "", "a", "");
        found("C(-R(ab))", "ab", "");
        found("C(-C(ab))", "b", "", "a");
        found("C(-L(a-))", "", "aa");
        TrailFinder x = Edges.logOf24("a");
        x.cut(23);
        check.due("one empty of 24", PiecesTest.text(x, x.find()).equals("C(-a)"));
        for (int c = 1; c < 24; c++) x.cut(c);
        check.due("23 empty of 24", PiecesTest.text(x, x.find()).equals("C(-a)"));
        TrailFinder y = Edges.log("a", "");
        y.drop(1, true);
        check.due("the empty one is dropped", PiecesTest.text(y, y.find()).equals("a"));
    }

    /** "in 2 SILENT ahead". */
    private static void silentAhead() {
        TrailFinder x = Edges.log("ab", "");
        check.due("silent ahead: number", x.find(), 4);
        kinds(x, 0, 1, 0, 0, 2, 3);
        check.due("silent ahead: first part", x.piece(4, 4), 0);
        check.due("silent ahead: second part", x.piece(4, 5), 3);
    }

    /** The kinds of the pieces from this one on. */
    private static void kinds(TrailFinder x, int from, int... want) {
        for (int i = 0; i < want.length; i++) check.due("kind of " + (from + i), x.piece(from + i, 0), want[i]);
    }

    private static void names(TrailFinder x, int from, int... want) {
        for (int i = 0; i < want.length; i++) check.due("name of " + (from + i), x.piece(from + i, 1), want[i]);
    }

    /** "3 there is one NAME only: the DEED, if each TRAIL has one; else LOOP of the DEED and SILENT." */
    private static void oneName() {
        found("a", "a");
        found("l", "l");
        found("l", "l", "l", "l");
        found("L(a-)", "aa");
        found("L(l-)", "llllll");
        found("L(a-)", "a", "a", "aa", "a");
        found("L(a-)", "aa", "a");
        found("L(a-)", "a", "aa");
        TrailFinder x = Edges.logOf24("l");
        check.due("24 of one deed: the deed", PiecesTest.text(x, x.find()).equals("l"));
        x.add(23, 11, 0, 0, 0);
        check.due("the last one has two", PiecesTest.text(x, x.find()).equals("L(l-)"));
        x.drop(23, true);
        check.due("the last one is dropped", PiecesTest.text(x, x.find()).equals("l"));
    }

    /** "in 3, 8 the DEEDS, CHOICE, SILENT, LOOP in the order told". */
    private static void oneNamePieces() {
        TrailFinder x = Edges.log("ll");
        check.due("one name: number", x.find(), 2);
        kinds(x, 0, 0, 1, 5);
        names(x, 0, 11, NONE, NONE);
        check.due("one name: first part", x.piece(2, 4), 0);
        check.due("one name: second part", x.piece(2, 5), 1);
    }

    /** "Else CUTS, ..; the first that gives more than one part." */
    private static void firstCutThatGivesMore() {
        // CHOICE: a ROW, BESIDE would give one part.
        found("C(ab)", "a", "b");
        // ROW: a CHOICE would give one part.
        found("R(ab)", "ab");
        // A BESIDE cut gives a and bcd; a LOOP cut, that would give abd and c, comes behind it.
        found("B(L(a-)B(B(C(-L(b-))C(-d))c))", "acadb", "bcbab", "daca", "bcdba");
        // None of the first three gives more than one part.
        found("L(ab)", "aba");
    }

    // ---- rule 4

    /** "4 CHOICE: NAMES are together of which one FOLLOWS the other": one way is enough. */
    private static void choiceOfNames() {
        found("C(al)", "l", "a");
        found("C(R(ab)c)", "ab", "c");
        found("C(R(ba)c)", "ba", "c");
        found("C(B(ab)c)", "ab", "ba", "c");
        found("C(L(a-)L(b-))", "aa", "bb");
        // "and what is together with one that is": a and c through b, of other trails.
        found("C(R(C(-a)bC(-c))d)", "ab", "bc", "d");
        TrailFinder x = new TrailFinder();
        for (int name = 11; name >= 0; name--) Edges.trail(x, "" + (char) ('a' + name));
        int p = x.find();
        check.due("choice of twelve", PiecesTest.text(x, p).equals("C(abcdefghijkl)"));
        check.due("choice of twelve: size", x.piece(p, 3), 13);
    }

    /** "Parts stand by their least NAMES"; "the TRAILS of each part". */
    private static void choiceParts() {
        found("C(R(la)b)", "b", "la");
        found("C(R(lb)R(kc))", "kc", "lb");
        found("C(aR(lb)k)", "k", "lb", "a");
        found("C(L(a-)b)", "a", "b", "aa", "b");
        found("C(aL(b-))", "a", "b", "a", "bb");
    }

    // ---- rule 5

    /** "5 ROW: a REACHES b, if b FOLLOWS a, or what a REACHES is followed by b." */
    private static void rowOfNames() {
        found("R(ab)", "ab");
        found("R(abcdef)", "abcdef");
        found("R(lkjihg)", "lkjihg");
        // a reaches l by eleven steps, in three trails.
        found("R(C(-a)C(-b)C(-c)C(-d)C(-e)C(-f)C(-g)C(-h)C(-i)C(-j)C(-k)C(-l))", "abcdef", "fghijk", "kl");
        found("R(C(-l)C(-k)C(-j)C(-i)C(-h)C(-g)C(-f)C(-e)C(-d)C(-c)C(-b)C(-a))", "lkjihg", "gfedcb", "ba");
        found("R(L(a-)b)", "aab");
        found("R(aL(b-))", "ab", "abbbbb");
    }

    /** "Together are NAMES that both REACH one another, or neither the other; what is together with one that is". */
    private static void rowTogether() {
        // b, c neither one the other.
        found("R(aC(bc)d)", "abd", "acd");
        // d neither with b nor with c, though b reaches c.
        found("R(aC(R(bc)d)e)", "abce", "ade");
        // b, c both one another, by one step and by two.
        found("R(aB(bc)d)", "abcd", "acbd");
        found("R(aL(R(bc)d))", "abcdbc", "abc");
        // All reach one another: no ROW.
        found("L(ab)", "aba");
    }

    /** "A part of which a NAME REACHES one of another part stands ahead of it", not by least NAMES. */
    private static void rowOrder() {
        found("R(cba)", "cba");
        found("R(bC(ac)d)", "bad", "bcd");
        found("R(lC(bk)a)", "lka", "lba");
        found("R(C(kl)C(ij)C(ab))", "kia", "ljb", "kja", "lib", "kib");
        found("R(fC(-e)d)", "fed", "fd");
    }

    /** "ROW of what is FOUND for what of each TRAIL is of each part (it may be empty)." */
    private static void rowMayBeEmpty() {
        found("R(aC(-b))", "ab", "a");
        found("R(C(-a)b)", "ab", "b");
        found("R(aC(-b)c)", "abc", "ac");
        found("R(C(-a)bC(-c))", "ab", "bc");
        found("R(aC(-L(b-)))", "a", "abb");
        found("R(C(-C(ab))c)", "ac", "bc", "c");
        found("C(-R(aC(-b)))", "ab", "a", "");
    }

    // ---- rule 6

    /** "6 BESIDE: NAMES are together unless each FOLLOWS the other". */
    private static void besideEachFollows() {
        found("B(ab)", "ab", "ba");
        found("B(al)", "la", "al");
        // b, c in one order only: together.
        found("B(aR(bc))", "abc", "bac", "bca");
        found("B(aR(cb))", "acb", "cab", "cba");
        // "and what is together with one that is": b with d with c, though b and c each follow the other.
        found("B(aR(dB(bc)))", "adbc", "adcb", "dabc", "dbac", "dbca", "dcba", "dcab", "dacb");
    }

    /** "each part has a NAME that BEGINS a TRAIL, and one that ENDS one (else there is no such cut)". */
    private static void besideBeginsAndEnds() {
        // b begins none.
        found("L(C(ab)-)", "ab", "aba");
        // b ends none.
        found("L(C(ab)-)", "ba", "aba");
        // a begins none; a ends none.
        found("L(C(ab)-)", "ba", "bab");
        found("L(C(ab)-)", "ab", "bab");
        // Each begins one and ends one; b and c, one part, by one each.
        found("B(ab)", "ab", "ba");
        found("B(aR(bc))", "abc", "bca", "bac");
    }

    /** "BESIDE of what is FOUND for what of each TRAIL is of each part": also of none. */
    private static void besideMayBeEmpty() {
        found("B(aC(-b))", "ab", "ba", "a");
        found("B(C(-a)b)", "ab", "ba", "b");
        found("B(C(-a)C(-b))", "ab", "ba", "a", "b");
        found("C(-B(aC(-b)))", "ab", "ba", "a", "");
        found("B(L(a-)b)", "aab", "ba", "aba");
    }

    /** Six names, each right behind each: as many as trails of six can mix. */
    private static void besideOfSix() {
        String[] trails = new String[6];
        int[] zigzag = {0, 1, 5, 2, 4, 3};
        for (int t = 0; t < 6; t++) {
            StringBuilder trail = new StringBuilder();
            for (int step : zigzag) trail.append((char) ('f' + (step + t) % 6));
            trails[t] = trail.toString();
        }
        found("B(fghijk)", trails);
    }

    // ---- rule 7

    /** "7 LOOP: the BODY has, at first, NAMES that BEGIN or END a TRAIL": those that do one of both, too. */
    private static void loopBody() {
        found("L(ab)", "aba");
        found("L(la)", "lal");
        found("L(R(ab)c)", "abcab");
        found("L(R(ba)c)", "bacba");
        found("L(R(lk)a)", "lkalk", "lk");
        found("L(C(ac)b)", "aba", "cbc");
        found("L(ab)", "aba", "a", "ababa");
    }

    /** "Others are together if one FOLLOWS the other, and what is together with one that is." */
    private static void loopTogether() {
        found("L(aR(bc))", "abca");
        found("L(aR(cb))", "acba");
        found("L(aB(bc))", "abca", "acba");
        found("L(abc)", "aba", "aca");
        found("L(abc)", "abaca");
        found("L(aR(bcde))", "abcdea");
        found("L(aR(C(-b)cC(-d)))", "abca", "acda");
    }

    /** "A part goes to the BODY if a NAME of it FOLLOWS one of the BODY that ENDS none". */
    private static void loopFollowsOneThatEndsNone() {
        // a begins, b ends; c follows b, as a round does: it stays.
        found("L(R(ab)c)", "abcab");
        // c follows a, that ends none, and b.
        found("L(C(abc)-)", "abcab", "acab");
        // c follows a alone.
        found("L(C(abc)-)", "abacab");
        // The other ones stay: d goes, c does not.
        found("L(R(aC(-d)b)c)", "adbcab");
    }

    /** "or is FOLLOWED by one of the BODY that BEGINS none". */
    private static void loopIsFollowedByOneThatBeginsNone() {
        // c is followed by b, that begins none, and by a.
        found("L(C(abc)-)", "abcab", "abcb");
        // c is followed by b alone.
        found("L(C(abc)-)", "abcbab");
        // Of c and d only c is followed by the body, and only by what begins.
        found("L(R(ab)R(dc))", "abdcab");
        found("L(C(abcd)-)", "abcdab", "abcdb");
    }

    /** "or FOLLOWS one that ENDS some and not all of these". */
    private static void loopFollowsNotAllEnds() {
        // a begins, b and d end; c follows b, and d: it stays.
        found("L(R(aC(bd))c)", "abcad", "adcab");
        // c follows b alone.
        found("L(C(abcd)-)", "abcad", "adab");
        // c follows d alone.
        found("L(C(abcd)-)", "adcab", "abad");
        // Of one part, c follows b and e follows d: neither NAME follows all.
        found("L(C(abcde)-)", "abcead", "adecab");
    }

    /** "or is FOLLOWED by one that BEGINS some and not by all of these". */
    private static void loopIsFollowedByNotAllBegins() {
        // a and b begin, d ends; c is followed by both: it stays.
        found("L(R(C(ab)d)c)", "adcbd", "bdcad");
        // c is followed by a alone; by b alone.
        found("L(C(abcd)-)", "adcad", "bd", "abd", "bad");
        found("L(C(abcd)-)", "bdcbd", "ad", "abd", "bad");
    }

    /** "LOOP of what is FOUND for .. all that stands without a gap in a TRAIL of it, as rows, in order." */
    private static void loopWithoutGap() {
        // The body stands alone each time, so do the others.
        found("L(ab)", "ababa");
        // Twice in a row.
        found("L(L(a-)b)", "aaba");
        found("L(aL(b-))", "abba");
        found("L(L(a-)L(b-))", "aabbaa");
        // b c and b: c may be missing, as the others' rows are bc and b.
        found("L(aR(bC(-c)))", "abca", "aba");
        // The body's rows are ab, cb: not a, b, c of whole trails.
        found("L(R(C(ac)b)d)", "abdcb", "cbdab");
        // A row of four, up to the last deed but one.
        found("L(aR(bcde))", "abcdea", "abcdea");
    }

    /** "LOOP of .. the BODY, then of each part": the BODY first, though its names are greater. */
    private static void loopParts() {
        found("L(labc)", "lclbl", "lal");
        found("L(lR(ka)b)", "lkal", "lbl");
        // Six trails, five others.
        found("L(fabcde)", "faf", "fbf", "fcf", "fdf", "fef");
        // A cut BESIDE, tried ahead and in vain, leaves nothing behind.
        found("L(L(C(bc)-)d)", "bdbcb", "ccbdcb");
        found("L(C(bL(c-))L(ad))", "bac", "ccadab");
        // Eleven others: as many as there are.
        found("L(labcdefghijk)", "lalbl", "lcldl", "lelfl", "lglhl", "liljl", "lkl");
    }

    /** "If parts are left": none is, and nothing else cuts. */
    private static void loopNoneLeft() {
        // All begin or end a trail.
        found("L(C(ab)-)", "ab", "aba");
        // All others go to the body.
        found("L(C(abc)-)", "abacab");
    }

    // ---- rule 8

    /** "8 none cuts: LOOP of a CHOICE of the DEEDS, by NAMES, and SILENT (FLOWER)", with all twelve. */
    private static void flowerOfTwelve() {
        found("L(C(abcdefghijkl)-)", "abcdef", "fghijk", "kla");
        found("L(C(abcdefghijkl)-)", "lkjihg", "gfedcb", "bal");
        found("L(C(kl)-)", "kl", "klk");
    }

    /** "in 3, 8 the DEEDS, CHOICE, SILENT, LOOP in the order told". */
    private static void flowerPieces() {
        TrailFinder x = Edges.log("abcdef", "fghijk", "kla");
        x.deed(3);
        check.due("flower: number", x.find(), 15);
        kinds(x, 0, 0, 0, 0, 0, 0, 0, 0, 0, 0, 0, 0, 0, 0, 3, 1, 5);
        names(x, 0, 3, 0, 1, 2, 3, 4, 5, 6, 7, 8, 9, 10, 11, NONE, NONE, NONE);
        check.due("flower: loop's first", x.piece(15, 4), 13);
        check.due("flower: loop's second", x.piece(15, 5), 14);
        for (int i = 0; i < 12; i++) check.due("flower: choice's " + i, x.piece(13, 4 + i), 1 + i);
        check.due("flower: twelve", x.piece(13, 2), 12);
    }

    /** "PIECES of what is FOUND come PART by PART, each PART whole, then what they are PARTS of". */
    private static void deeds() {
        TrailFinder x = Edges.log("abbd", "acd", "ad");
        check.due("part by part", x.find(), 9);
        check.due("part by part: text", PiecesTest.text(x, 9).equals("R(aC(-C(L(b-)c))d)"));
        kinds(x, 0, 0, 1, 0, 1, 5, 0, 3, 3, 0, 2);
        names(x, 0, 0, NONE, 1, NONE, NONE, 2, NONE, NONE, 3, NONE);
    }

    // ---- promise 15

    /** 15: "What is FOUND for THE LOG": what is DROPPED, cut or added since is another log. */
    private static void inTheLog() {
        TrailFinder x = Edges.log("ab", "ba", "c");
        text("all", x, "C(B(ab)c)");
        x.drop(2, true);
        text("the last dropped", x, "B(ab)");
        x.drop(0, true);
        text("the first dropped", x, "R(ba)");
        x.cut(1);
        text("cut", x, "b");
        x.add(1, 1, 0, 0, 0);
        text("added", x, "L(b-)");
        x.drop(1, true);
        text("all dropped", x, "-");
        x.drop(0, false);
        x.drop(2, false);
        text("two are back", x, "C(R(ab)c)");
        text("once more", x, "C(R(ab)c)");
    }

    /** What was found before is forgotten: log behind log on one object, told by what is not DROPPED. */
    private static void oneBehindAnother() {
        String[] trails = {"ab", "ba", "a", "b", "aba", "acb", "c", "abc", ""};
        int[][] logs = {{0, 1}, {2, 3}, {0}, {2, 3}, {4}, {2, 3}, {0, 4}, {1}, {5, 7}, {0, 6}, {4}, {2, 3, 6},
            {4, 0, 1}, {8}, {2, 3}, {1, 3}, {5}, {2, 8}, {2}};
        String[] nets = {"B(ab)", "C(ab)", "R(ab)", "C(ab)", "L(ab)", "C(ab)", "L(C(ab)-)", "R(ba)", "R(aB(bc))",
            "C(R(ab)c)", "L(ab)", "C(abc)", "B(L(a-)b)", "-", "C(ab)", "R(bC(-a))", "R(acb)", "C(-a)", "a"};
        TrailFinder x = Edges.log(trails);
        Edges.dropAll(x);
        for (int i = 0; i < logs.length; i++) {
            for (int c : logs[i]) x.drop(c, false);
            text("log " + i, x, nets[i]);
            for (int c : logs[i]) x.drop(c, true);
        }
    }

    private static void text(String when, TrailFinder x, String want) {
        String got = PiecesTest.text(x, x.find());
        check.due("find, " + when + ", answers " + got + ", due is " + want, got.equals(want));
    }

    /** 12 NAMES: eleven cuts, one within the other; 24 TRAILS: 72 rows of one part. */
    private static void deepest() {
        String[] trails = {"a", "bc", "bde", "bdfg", "bdfhi", "bdfhjk", "bdfhjl"};
        found("C(aR(bC(cR(dC(eR(fC(gR(hC(iR(jC(kl)))))))))))", trails);
        TrailFinder x = new TrailFinder();
        for (int c = 0; c < 23; c++) Edges.trail(x, "ababa");
        Edges.trail(x, "cbcbc");
        text("of 72 rows", x, "L(C(ac)b)");
        x.drop(23, true);
        text("of 69 rows", x, "L(ab)");
    }

    /** 15: "FULL: PIECES would be above 200 .. (nothing of it comes)". */
    private static void fullOf200() {
        for (int before = 184; before <= 187; before++) {
            TrailFinder x = Edges.log("abcdef", "fghijk", "kla");
            Edges.fill(x, before);
            boolean comes = before + 15 <= 200;
            check.due("full: at " + before, x.find(), comes ? before + 14 : FULL);
            check.due("full: pieces at " + before, x.count(4), comes ? before + 15 : before);
            check.due("full: none behind them", x.piece(x.count(4), 0), Edges.BAD);
            check.due("full: the log stays", x.count(2), 15);
            if (!comes) check.due("full: the next one", x.deed(5), before);
        }
    }

    /** 15: "FULL: .. or one of a SIZE above 60 (nothing of it comes)": 60 comes, 61 does not. */
    private static void fullOfSize() {
        // Ten names that may be missing and come again, and a choice of two such: 1 + 10 * 5 + 9.
        String[] sixty = {"aabbcc", "ccddee", "eeffgg", "gghhii", "iijjkk", "jjll"};
        TrailFinder x = Edges.log(sixty);
        check.due("size 60: number", x.find(), 59);
        check.due("size 60: size", x.piece(59, 3), 60);
        check.due("size 60: parts", x.piece(59, 2), 11);
        check.due("size 60: each lies on it", x.fit(59, 1), 0);
        Edges.fill(x, 140);
        check.due("size 60: it just fits", x.find(), 199);
        check.due("size 60: again", x.find(), FULL);
        TrailFinder y = Edges.log(sixty);
        Edges.fill(y, 141);
        check.due("size 60: one too many", y.find(), FULL);
        check.due("size 60: none came", y.count(4), 141);
        // Twelve names that may be missing and come again: 1 + 12 * 5.
        TrailFinder z = Edges.log("aabbcc", "cddeef", "ffgghh", "hiijjk", "kkll");
        check.due("size 61: full", z.find(), FULL);
        check.due("size 61: none came", z.count(4), 0);
        check.due("size 61: the next piece", z.deed(0), 0);
        z.drop(4, true);
        check.due("size 61: of a lesser log", z.find() > 0);
    }

    /** The least that can come is one PIECE. */
    private static void fullWithSilent() {
        TrailFinder x = new TrailFinder();
        Edges.fill(x, 199);
        check.due("silent: the 200th", x.find(), 199);
        check.due("silent: the 201st", x.find(), FULL);
        check.due("silent: 200", x.count(4), 200);
        TrailFinder y = Edges.log("l");
        Edges.fill(y, 199);
        check.due("a deed: the 200th", y.find(), 199);
        check.due("a deed: the 201st", y.find(), FULL);
    }
}
