/** Promise 13 and what part 2 of the document tells of PLAIN, at their edges. */
final class PlainEdgesTest {
    private static final int BAD = Edges.BAD, FULL = Edges.FULL;
    private static final Check check = new Check("PlainEdgesTest");

    public static void main(String[] args) {
        withoutParts();
        silentLeftOut();
        silentStays();
        givenInTheirPlace();
        notGiven();
        likeLeftOut();
        likeStay();
        onePartLeft();
        noneLeft();
        becomesSilentWithin();
        inOrderOfKind();
        inOrderOfName();
        inOrderOfParts();
        inOrderOfUnlikeParts();
        rowsStayAsTheyStand();
        loopsBehindTheFirst();
        ofPlainParts();
        partByPart();
        oneForEachPlace();
        noneForWhatIsLeftOut();
        full();
        fullOfGreatSizes();
        bad();
        check.end();
    }

    /** The plain one as a text; its pieces are all that came, and it is plain itself. */
    private static void plain(String from, String to) {
        TrailFinder x = new TrailFinder();
        int p = PiecesTest.make(x, from);
        int made = x.count(4);
        int q = x.plain(p);
        String got = PiecesTest.text(x, q);
        check.due("plain of " + from + " is " + got + ", due is " + to, got.equals(to));
        check.due("plain of " + from + ": its number", q, made + x.piece(q, 3) - 1);
        check.due("plain of " + from + ": all that came", x.count(4), q + 1);
        check.due("plain of " + from + ": again, like", x.like(q, x.plain(q)), 1);
        check.due("plain of " + from + ": the old one stays", PiecesTest.text(x, p).equals(from));
    }

    /** "PLAIN is a PIECE, its PARTS being so": what has none is plain. */
    private static void withoutParts() {
        plain("-", "-");
        plain("a", "a");
        plain("l", "l");
    }

    /** "a ROW's, BESIDE's PARTS that are SILENT are left out": the first, the last, one between, more than one. */
    private static void silentLeftOut() {
        for (String kind : new String[] {"R", "B"}) {
            plain(kind + "(-ab)", kind + "(ab)");
            plain(kind + "(a-b)", kind + "(ab)");
            plain(kind + "(ab-)", kind + "(ab)");
            plain(kind + "(--a--b--)", kind + "(ab)");
            plain(kind + "(ab)", kind + "(ab)");
        }
    }

    /** A CHOICE's stay, and "(Of a LOOP none is left out.)" */
    private static void silentStays() {
        plain("C(-a)", "C(a-)");
        plain("C(a-)", "C(a-)");
        plain("L(-a)", "L(-a)");
        plain("L(a-)", "L(a-)");
        plain("L(--)", "L(--)");
        plain("L(-a-)", "L(-a-)");
    }

    /** "PARTS of a ROW that are ROWS, of a CHOICE that are CHOICES, of BESIDE .. give theirs in their place". */
    private static void givenInTheirPlace() {
        plain("R(R(ba)c)", "R(bac)");
        plain("R(cR(ba))", "R(cba)");
        plain("R(cR(ba)d)", "R(cbad)");
        plain("R(R(dc)R(ba))", "R(dcba)");
        plain("R(R(R(dc)b)a)", "R(dcba)");
        plain("R(dR(cR(bR(a-))))", "R(dcba)");
        plain("C(C(ba)c)", "C(abc)");
        plain("C(cC(C(ab)d))", "C(abcd)");
        plain("B(B(ba)c)", "B(abc)");
        plain("B(cB(B(ab)d))", "B(abcd)");
        plain("C(C(-a)C(-b))", "C(ab-)");
    }

    /** Of another KIND they give nothing; a LOOP's that are LOOPS neither. */
    private static void notGiven() {
        plain("L(L(ab)L(cd))", "L(L(ab)L(cd))");
        plain("L(aL(bc))", "L(aL(bc))");
        String[] kinds = {"R", "C", "B", "L"};
        for (String outer : kinds) {
            for (String inner : kinds) {
                if (!outer.equals(inner)) plain(outer + "(a" + inner + "(bc))", outer + "(a" + inner + "(bc))");
            }
        }
    }

    /** "of a CHOICE PARTS that are LIKE one ahead of them are left out". */
    private static void likeLeftOut() {
        plain("C(aab)", "C(ab)");
        plain("C(aba)", "C(ab)");
        plain("C(abb)", "C(ab)");
        plain("C(--a)", "C(a-)");
        plain("C(bR(ab)bR(ab)b)", "C(bR(ab))");
        plain("C(C(ab)C(ba))", "C(ab)");
        plain("C(aC(bC(ab)))", "C(ab)");
        plain("C(R(ab)R(ba))", "C(R(ab)R(ba))");
        plain("C(L(ab)L(ba))", "C(L(ab)L(ba))");
    }

    /** Of no other KIND: "Of a LOOP none is left out." */
    private static void likeStay() {
        plain("R(aab)", "R(aab)");
        plain("R(aba)", "R(aba)");
        plain("B(aab)", "B(aab)");
        plain("B(bab)", "B(abb)");
        plain("L(aa)", "L(aa)");
        plain("L(abab)", "L(aabb)");
        plain("B(R(ab)R(ab))", "B(R(ab)R(ab))");
    }

    /** "what has one PART left is that". */
    private static void onePartLeft() {
        plain("R(a-)", "a");
        plain("R(-l-)", "l");
        plain("B(-a)", "a");
        plain("C(aa)", "a");
        plain("C(aaaa)", "a");
        plain("R(-L(ab))", "L(ab)");
        plain("B(C(ba)-)", "C(ab)");
        plain("C(R(ab)R(ab))", "R(ab)");
        plain("R(-B(-C(aa)))", "a");
        plain("R(cB(-R(ab)))", "R(cab)");
        plain("C(cB(-C(ab)))", "C(abc)");
        plain("B(cC(B(ab)B(ab)))", "B(abc)");
        plain("L(cB(-L(ab)))", "L(cL(ab))");
    }

    /** "what has none is SILENT". */
    private static void noneLeft() {
        plain("R(--)", "-");
        plain("R(---)", "-");
        plain("B(--)", "-");
        plain("B(----)", "-");
        plain("C(--)", "-");
        plain("R(R(--)B(--))", "-");
    }

    /** A PIECE that becomes SILENT is left out as one that is. */
    private static void becomesSilentWithin() {
        plain("R(aR(--)b)", "R(ab)");
        plain("B(aC(--)b)", "B(ab)");
        plain("R(aB(--))", "a");
        plain("B(C(--)R(--)a)", "a");
        plain("C(aR(--))", "C(a-)");
        plain("C(-R(--)a)", "C(a-)");
        plain("C(R(--)B(--))", "-");
        plain("L(R(--)B(--))", "L(--)");
        plain("L(aC(--))", "L(a-)");
        plain("R(L(--)C(--))", "L(--)");
    }

    /** "PARTS of a CHOICE, of BESIDE, .. stand in order": "first what has the lesser KIND". */
    private static void inOrderOfKind() {
        plain("C(L(ab)B(ab)R(ab)-l)", "C(l-R(ab)B(ab)L(ab))");
        plain("B(L(ab)C(ab)R(ab)l)", "B(lR(ab)C(ab)L(ab))");
        plain("C(-a)", "C(a-)");
        plain("C(R(aa)-)", "C(-R(aa))");
        plain("C(B(aa)R(lll))", "C(R(lll)B(aa))");
        plain("B(C(ab)R(lll))", "B(R(lll)C(ab))");
        plain("B(L(aa)C(kl))", "B(C(kl)L(aa))");
        plain("C(L(aa)B(kl))", "C(B(kl)L(aa))");
        plain("C(R(L(aa)l)R(B(ll)a))", "C(R(B(ll)a)R(L(aa)l))");
    }

    /** "then the lesser NAME". */
    private static void inOrderOfName() {
        plain("C(lkjihgfedcba)", "C(abcdefghijkl)");
        plain("B(lab)", "B(abl)");
        plain("B(ba)", "B(ab)");
    }

    /** "then the fewer PARTS", ahead of what PARTS tell. */
    private static void inOrderOfParts() {
        plain("C(R(aaa)R(ll))", "C(R(ll)R(aaa))");
        plain("B(L(aaaa)L(lll)L(kkk))", "B(L(kkk)L(lll)L(aaaa))");
        plain("C(R(ab)R(abc))", "C(R(ab)R(abc))");
        plain("C(R(B(aaa)l)R(B(ll)a))", "C(R(B(ll)a)R(B(aaa)l))");
    }

    /** "then the first of two PARTS that are not LIKE tells": the first, one between, the last, and theirs. */
    private static void inOrderOfUnlikeParts() {
        plain("C(R(bac)R(acd))", "C(R(acd)R(bac))");
        plain("C(R(aca)R(abl))", "C(R(abl)R(aca))");
        plain("C(R(abd)R(abc))", "C(R(abc)R(abd))");
        plain("C(R(aB(ad))R(aB(ac)))", "C(R(aB(ac))R(aB(ad)))");
        plain("C(R(aL(bc))R(aB(kl)))", "C(R(aB(kl))R(aL(bc)))");
        plain("C(R(B(ac)a)R(B(ab)l))", "C(R(B(ab)l)R(B(ac)a))");
        plain("B(C(a-)C(ab))", "B(C(ab)C(a-))");
    }

    /** A ROW's PARTS are not told to stand in order: they stay as they stand. */
    private static void rowsStayAsTheyStand() {
        plain("R(cab)", "R(cab)");
        plain("R(L(ab)B(ab)C(ab)a)", "R(L(ab)B(ab)C(ab)a)");
        plain("R(lk)", "R(lk)");
    }

    /** "and of a LOOP those behind its first, stand in order": the first stays, the lesser and the greater. */
    private static void loopsBehindTheFirst() {
        plain("L(ba)", "L(ba)");
        plain("L(lcba)", "L(labc)");
        plain("L(bca)", "L(bac)");
        plain("L(L(ab)b-a)", "L(L(ab)ab-)");
        plain("L(aL(ab)B(ab)R(ab)-)", "L(a-R(ab)B(ab)L(ab))");
        plain("L(aR(bbb)R(ll))", "L(aR(ll)R(bbb))");
    }

    /** "its PARTS being so": order and likeness are those of PARTS that are made PLAIN. */
    private static void ofPlainParts() {
        plain("C(R(-b)a)", "C(ab)");
        plain("C(R(a-)a)", "a");
        plain("C(B(ab)B(ba))", "B(ab)");
        plain("C(R(ab-)R(ba))", "C(R(ab)R(ba))");
        plain("B(L(ac)R(bR(--)))", "B(bL(ac))");
        plain("C(R(aC(cb))R(aC(bc)))", "R(aC(bc))");
        plain("C(R(ab-)R(abR(cd)))", "C(R(ab)R(abcd))");
        plain("C(R(aR(bc))R(lk---))", "C(R(lk)R(abc))");
    }

    // ---- the pieces that come

    /** 13: "PIECES come PART by PART as they stand in it, each PART whole, then what they are PARTS of". */
    private static void partByPart() {
        TrailFinder x = new TrailFinder();
        int p = PiecesTest.make(x, "B(L(cb)R(d-R(ea))a)");
        int from = x.count(4);
        check.due("part by part: number", x.plain(p), from + 8);
        int[] kinds = {0, 0, 0, 0, 2, 0, 0, 5, 4};
        int[] names = {0, 3, 4, 0, -3, 2, 1, -3, -3};
        for (int i = 0; i < 9; i++) {
            check.due("part by part: kind " + i, x.piece(from + i, 0), kinds[i]);
            check.due("part by part: name " + i, x.piece(from + i, 1), names[i]);
        }
        int[] parts = {0, 4, 7};
        for (int i = 0; i < 3; i++) check.due("part by part: part " + i, x.piece(from + 8, 4 + i), from + parts[i]);
        for (int i = 0; i < 3; i++) check.due("part by part: the row's " + i, x.piece(from + 4, 4 + i), from + 1 + i);
    }

    /** 13: "(one for each place, DEEDS and SILENTS too; ..)", though one PIECE is a PART more than once. */
    private static void oneForEachPlace() {
        TrailFinder x = new TrailFinder();
        x.deed(0);
        x.deed(-1);
        x.join(5, 0, 1);
        x.join(2, 2, 2);
        check.due("for each place: number", x.plain(3), 10);
        int[] kinds = {0, 1, 5, 0, 1, 5, 2};
        for (int i = 0; i < 7; i++) check.due("for each place: kind " + i, x.piece(4 + i, 0), kinds[i]);
        check.due("for each place: first part", x.piece(10, 4), 6);
        check.due("for each place: second part", x.piece(10, 5), 9);
        check.due("for each place: all", x.count(4), 11);
        check.due("a deed is made anew", x.plain(0), 11);
        check.due("silent is made anew", x.plain(1), 12);
        check.due("they come even so", x.count(4), 13);
    }

    /** 13: "none for what is left out". */
    private static void noneForWhatIsLeftOut() {
        TrailFinder x = new TrailFinder();
        int p = PiecesTest.make(x, "R(-C(aaaa)R(--)B(--))");
        int made = x.count(4);
        check.due("left out: number", x.plain(p), made);
        check.due("left out: one came", x.count(4), made + 1);
        check.due("left out: a deed", x.piece(made, 0), 0);
        TrailFinder y = new TrailFinder();
        p = PiecesTest.make(y, "C(R(ab)R(ab)R(ab))");
        made = y.count(4);
        check.due("left out: the choice too", y.plain(p), made + 2);
    }

    // ---- full, bad

    /** 13: "FULL (nothing of it comes)": what counts is how many come, not how many there were. */
    private static void full() {
        for (int fits = 196; fits <= 198; fits++) {
            TrailFinder x = new TrailFinder();
            int p = PiecesTest.make(x, "R(a-R(b-))");
            Edges.fill(x, fits);
            boolean comes = fits + 3 <= 200;
            check.due("full: at " + fits, x.plain(p), comes ? fits + 2 : FULL);
            check.due("full: pieces at " + fits, x.count(4), comes ? fits + 3 : fits);
            check.due("full: none behind them", x.piece(x.count(4), 0), BAD);
            check.due("full: the next one", x.deed(7), comes && fits + 3 == 200 ? FULL : x.count(4) - 1);
        }
        TrailFinder y = new TrailFinder();
        int silent = PiecesTest.make(y, "R(--)");
        Edges.fill(y, 199);
        check.due("full: the 200th", y.plain(silent), 199);
        check.due("full: the 201st", y.plain(silent), FULL);
        check.due("full: the 201st, of a deed", y.plain(5), FULL);
        check.due("full: 200", y.count(4), 200);
    }

    /** A PIECE of SIZE 60 is made PLAIN: 60 more come, or none. */
    private static void fullOfGreatSizes() {
        for (int before = 140; before <= 141; before++) {
            TrailFinder x = new TrailFinder();
            x.deed(0);
            int p = Edges.wide(x, 4, 0, 59);
            Edges.fill(x, before);
            check.due("size 60 at " + before, x.plain(p), before == 140 ? 199 : FULL);
            check.due("size 60: pieces at " + before, x.count(4), before == 140 ? 200 : 141);
            if (before == 140) check.due("size 60: like", x.like(p, 199), 1);
        }
        TrailFinder y = new TrailFinder();
        y.deed(0);
        int loops = 0;
        for (int level = 0; level < 29; level++) loops = y.join(5, 0, loops);
        int number = y.plain(loops);
        check.due("30 levels: number", number, loops + 59);
        check.due("30 levels: like", y.like(loops, number), 1);
        TrailFinder z = new TrailFinder();
        z.deed(0);
        int rows = 0;
        for (int level = 0; level < 29; level++) rows = z.join(2, rows, 0);
        number = z.plain(rows);
        check.due("30 rows in rows: number", number, rows + 31);
        check.due("30 rows in rows: parts", z.piece(number, 2), 30);
        check.due("30 rows in rows: size", z.piece(number, 3), 31);
    }

    /** 13: "BAD." */
    private static void bad() {
        Edges.within(check, "plain: p of 3", 0, 2, BAD, PlainEdgesTest::plainOfThree);
        check.due("plain: none came", afterBad(), 3);
    }

    private static int plainOfThree(int p) {
        TrailFinder x = new TrailFinder();
        Edges.fill(x, 3);
        return x.plain(p);
    }

    private static int afterBad() {
        TrailFinder x = new TrailFinder();
        Edges.fill(x, 3);
        x.plain(3);
        x.plain(-1);
        return x.count(4);
    }
}
