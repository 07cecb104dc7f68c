/** Promises 9 to 12 and 14 at their edges: each test names the document's words that it holds. */
final class PiecesEdgesTest {
    private static final int BAD = Edges.BAD, FULL = Edges.FULL, NONE = Edges.NONE;
    private static final Check check = new Check("PiecesEdgesTest");

    public static void main(String[] args) {
        deedNames();
        deedFull();
        joinKinds();
        joinParts();
        joinFullOf200();
        joinSize();
        moreParts();
        moreBad();
        moreFullOf200();
        moreSize();
        mostParts();
        pieceWhat();
        pieceOfNone();
        pieceBad();
        neverChanged();
        likeKindsAndNames();
        likeParts();
        likeDeep();
        likeBad();
        check.end();
    }

    /** A new object with pieces 0 to made - 1, a deed of name 0 each. */
    private static TrailFinder deeds(int made) {
        TrailFinder x = new TrailFinder();
        Edges.fill(x, made);
        return x;
    }

    // ---- promise 9

    /** 9: "A DEED (NAME 0 to 11), or SILENT (NAME -1): the PIECE. BAD". */
    private static void deedNames() {
        for (int name = -1; name < 12; name++) {
            TrailFinder x = deeds(3);
            check.due("deed(" + name + ")", x.deed(name), 3);
            check.due("deed(" + name + "): kind", x.piece(3, 0), name == -1 ? 1 : 0);
            check.due("deed(" + name + "): name", x.piece(3, 1), name == -1 ? NONE : name);
            check.due("deed(" + name + "): parts", x.piece(3, 2), 0);
            check.due("deed(" + name + "): size", x.piece(3, 3), 1);
        }
        TrailFinder x = new TrailFinder();
        for (int name : new int[] {-2, 12, Edges.LEAST, Edges.MOST}) check.due("deed(" + name + ")", x.deed(name), BAD);
        check.due("deed: none came", x.count(4), 0);
        check.due("deed: the first one", x.deed(11), 0);
        check.due("deed: the same again is another", x.deed(11), 1);
    }

    /** "PIECES 0, 1, .. as they come, 200 at most"; 9: "FULL." */
    private static void deedFull() {
        for (int name = -1; name < 12; name += 12) {
            TrailFinder x = deeds(199);
            check.due("deed: the 200th", x.deed(name), 199);
            check.due("deed: the 201st", x.deed(name), FULL);
            check.due("deed: the 201st, again", x.deed(name), FULL);
            check.due("deed: 200 pieces", x.count(4), 200);
            check.due("deed: the 200th's kind", x.piece(199, 0), name == -1 ? 1 : 0);
            check.due("deed: no 201st", x.piece(200, 0), BAD);
        }
    }

    // ---- promise 10

    /** 10: "A PIECE of KIND 2 to 5 with two PARTS. BAD". */
    private static void joinKinds() {
        Edges.within(check, "join: KIND", 2, 5, BAD, kind -> deeds(1).join(kind, 0, 0));
        check.due("join: KIND 0", deeds(1).join(0, 0, 0), BAD);
        for (int kind = 2; kind < 6; kind++) {
            TrailFinder x = deeds(1);
            x.deed(-1);
            check.due("join: number", x.join(kind, 0, 1), 2);
            int[] want = {kind, NONE, 2, 3, 0, 1, NONE};
            for (int what = 0; what < want.length; what++) {
                check.due("join " + kind + ": told " + what, x.piece(2, what), want[what]);
            }
        }
    }

    /** "with two PARTS or more, which are PIECES (one may be a part more than once)"; 10: "BAD". */
    private static void joinParts() {
        Edges.within(check, "join: a of 2", 0, 1, BAD, a -> deeds(2).join(2, a, 0));
        Edges.within(check, "join: b of 2", 0, 1, BAD, b -> deeds(2).join(2, 0, b));
        Edges.within(check, "join: a of 199", 0, 198, BAD, a -> deeds(199).join(5, a, 0));
        Edges.within(check, "join: b of 199", 0, 198, BAD, b -> deeds(199).join(5, 0, b));
        TrailFinder x = deeds(1);
        check.due("join: it is none of its own parts", x.join(2, 0, 1), BAD);
        check.due("join: one part twice", x.join(2, 0, 0), 1);
        check.due("join: its first part", x.piece(1, 4), 0);
        check.due("join: its second part", x.piece(1, 5), 0);
        check.due("join: its size counts both", x.piece(1, 3), 3);
    }

    /** 10: "FULL: 200". */
    private static void joinFullOf200() {
        for (int kind = 2; kind < 6; kind++) {
            TrailFinder x = deeds(199);
            check.due("join: the 200th", x.join(kind, 0, 198), 199);
            check.due("join: the 201st", x.join(kind, 0, 199), FULL);
            check.due("join: 200 pieces", x.count(4), 200);
        }
    }

    /** "SIZE: 1, and the SIZES of its PARTS: 60 at most"; 10: "FULL: .. or SIZE." */
    private static void joinSize() {
        TrailFinder x = deeds(1);
        int p29 = Edges.wide(x, 2, 0, 28);
        int p30 = x.more(p29, 0);
        check.due("join: 29", x.piece(p29, 3), 29);
        for (int kind = 2; kind < 6; kind++) {
            int p59 = x.join(kind, p29, p29);
            check.due("join: 59", x.piece(p59, 3), 59);
            int p60 = x.join(kind, p29, p30);
            check.due("join: 60", x.piece(p60, 3), 60);
            check.due("join: 60, the other way", x.piece(x.join(kind, p30, p29), 3), 60);
            int made = x.count(4);
            check.due("join: 61", x.join(kind, p30, p30), FULL);
            check.due("join: 61 by one of 59", x.join(kind, 0, p59), FULL);
            check.due("join: 62", x.join(kind, p60, 0), FULL);
            check.due("join: 121", x.join(kind, p60, p60), FULL);
            check.due("join: none of them came", x.count(4), made);
        }
        int p58 = Edges.wide(x, 3, 0, 57);
        check.due("join: 58 and 1", x.piece(x.join(4, p58, 0), 3), 60);
    }

    // ---- promise 11

    /** 11: "As a PIECE with PARTS, with one more behind them." */
    private static void moreParts() {
        for (int kind = 2; kind < 6; kind++) {
            TrailFinder x = new TrailFinder();
            for (int name = 0; name < 3; name++) x.deed(name);
            x.join(kind, 1, 0);
            check.due("more: number", x.more(3, 2), 4);
            int[] want = {kind, NONE, 3, 4, 1, 0, 2, NONE};
            for (int what = 0; what < want.length; what++) {
                check.due("more " + kind + ": told " + what, x.piece(4, what), want[what]);
            }
            int[] before = {kind, NONE, 2, 3, 1, 0, NONE};
            for (int what = 0; what < before.length; what++) {
                check.due("more " + kind + ": the old one, " + what, x.piece(3, what), before[what]);
            }
            check.due("more: itself behind", x.more(3, 3), 5);
            check.due("more: itself is a part", x.piece(5, 6), 3);
            check.due("more: with itself its size", x.piece(5, 3), 6);
        }
    }

    /** 11: "BAD: also one without PARTS." */
    private static void moreBad() {
        TrailFinder x = deeds(1);
        x.deed(-1);
        x.join(2, 0, 1);
        check.due("more: behind a deed", x.more(0, 0), BAD);
        check.due("more: behind silent", x.more(1, 0), BAD);
        check.due("more: behind a deed, a row", x.more(0, 2), BAD);
        check.due("more: none came", x.count(4), 3);
        for (int p : new int[] {-1, 3, 200, Edges.LEAST, Edges.MOST}) check.due("more: p " + p, x.more(p, 0), BAD);
        Edges.within(check, "more: a", 0, 2, BAD, a -> threePieces().more(2, a));
        check.due("more: at p's limit", threePieces().more(2, 0), 3);
        TrailFinder y = new TrailFinder();
        y.deed(-1);
        int silent = y.plain(y.join(2, 0, 0));
        check.due("more: behind a piece that became silent", y.more(silent, 0), BAD);
    }

    private static TrailFinder threePieces() {
        TrailFinder x = deeds(2);
        x.join(2, 0, 1);
        return x;
    }

    /** 11: "FULL likewise": 200. */
    private static void moreFullOf200() {
        TrailFinder x = threePieces();
        Edges.fill(x, 199);
        check.due("more: the 200th", x.more(2, 198), 199);
        check.due("more: the 201st", x.more(2, 0), FULL);
        check.due("more: behind the 200th", x.more(199, 0), FULL);
        check.due("more: the 200th as part", x.more(2, 199), FULL);
        check.due("more: 200 pieces", x.count(4), 200);
        check.due("more: the old one keeps two parts", x.piece(2, 2), 2);
    }

    /** 11: "FULL likewise": SIZE. */
    private static void moreSize() {
        TrailFinder x = deeds(1);
        int p29 = Edges.wide(x, 3, 0, 28);
        int p30 = x.more(p29, 0);
        int p31 = x.more(p30, 0);
        check.due("more: 29 and 31 are 60", x.piece(x.more(p29, p31), 3), 60);
        check.due("more: 31 and 29 are 60", x.piece(x.more(p31, p29), 3), 60);
        int made = x.count(4);
        check.due("more: 30 and 31", x.more(p30, p31), FULL);
        check.due("more: 31 and 30", x.more(p31, p30), FULL);
        check.due("more: 60 and 1", x.more(made - 1, 0), FULL);
        check.due("more: 60 and 60", x.more(made - 1, made - 2), FULL);
        check.due("more: none of them came", x.count(4), made);
    }

    // ---- promise 12

    /** A PIECE has 59 PARTS at most, as its SIZE is 60; 12: "PART i (..; to 62)". */
    private static void mostParts() {
        for (int kind = 2; kind < 6; kind++) {
            TrailFinder x = deeds(1);
            int p = Edges.wide(x, kind, 0, 58);
            int last = x.deed(11);
            p = x.more(p, last);
            check.due("59 parts", x.piece(p, 2), 59);
            check.due("59 parts: size", x.piece(p, 3), 60);
            check.due("59 parts: the first", x.piece(p, 4), 0);
            check.due("59 parts: the last but one", x.piece(p, 61), 0);
            check.due("59 parts: the last", x.piece(p, 62), last);
            check.due("59 parts: one behind", x.piece(p, 63), BAD);
            check.due("59 parts: one more", x.more(p, 0), FULL);
        }
    }

    /** 12: "Of a PIECE: 0 KIND, .. 4 + i PART i (NONE; to 62). BAD." */
    private static void pieceWhat() {
        for (int p = 0; p < 3; p++) {
            int of = p;
            Edges.within(check, "piece: what, of " + p, 0, 62, BAD, what -> kinds().piece(of, what));
        }
        check.due("piece: 63 of a row", kinds().piece(2, 63), BAD);
        check.due("piece: 64 of a row", kinds().piece(2, 64), BAD);
    }

    /** A deed, silent, and a row of both. */
    private static TrailFinder kinds() {
        TrailFinder x = deeds(1);
        x.deed(-1);
        x.join(2, 0, 1);
        return x;
    }

    /** 12: "1 NAME (of a DEED; else NONE)", "PART i (NONE; ..)". */
    private static void pieceOfNone() {
        TrailFinder x = kinds();
        check.due("piece: name of a deed", x.piece(0, 1), 0);
        check.due("piece: name of silent", x.piece(1, 1), NONE);
        check.due("piece: name of a row", x.piece(2, 1), NONE);
        for (int p = 0; p < 2; p++) {
            check.due("piece: no parts", x.piece(p, 2), 0);
            for (int what = 4; what < 63; what++) check.due("piece " + p + ": no part " + what, x.piece(p, what), NONE);
        }
        check.due("piece: the second part", x.piece(2, 5), 1);
        for (int what = 6; what < 63; what++) check.due("piece: a row's no part " + what, x.piece(2, what), NONE);
    }

    /** 12: "BAD": there is no such PIECE. */
    private static void pieceBad() {
        TrailFinder three = kinds();
        TrailFinder all = deeds(200);
        for (int k = 0; k < 63; k += k < 5 ? 1 : 57) {
            int what = k;
            Edges.within(check, "piece: p of 3, " + what, 0, 2, BAD, p -> three.piece(p, what));
            Edges.within(check, "piece: p of 200, " + what, 0, 199, BAD, p -> all.piece(p, what));
        }
    }

    /** "PIECES 0, 1, ..", "never changed", whatever comes behind them. */
    private static void neverChanged() {
        TrailFinder x = Edges.log("ab", "ba", "");
        int p = PiecesTest.make(x, "R(aC(b-)B(ab)L(ba))");
        int[] before = told(x, p);
        x.more(p, 0);
        x.join(2, p, p);
        x.plain(p);
        x.find();
        x.price(0, p);
        x.fit(p, 1);
        x.drop(0, true);
        x.cut(1);
        x.deed(11);
        int[] behind = told(x, p);
        for (int i = 0; i < before.length; i++) check.due("never changed, " + i, behind[i], before[i]);
    }

    private static int[] told(TrailFinder x, int most) {
        int[] told = new int[(most + 1) * 10];
        for (int i = 0; i < told.length; i++) told[i] = x.piece(i / 10, i % 10);
        return told;
    }

    // ---- promise 14

    /** "LIKE are PIECES of one KIND, with one NAME". */
    private static void likeKindsAndNames() {
        String[] texts = {"a", "b", "l", "-", "R(ab)", "C(ab)", "B(ab)", "L(ab)"};
        for (String one : texts) {
            for (String other : texts) {
                TrailFinder x = new TrailFinder();
                int p = PiecesTest.make(x, one);
                int q = PiecesTest.make(x, other);
                check.due("like: " + one + " and " + other, x.like(p, q), one.equals(other) ? 1 : 0);
                check.due("like: " + one + " and itself", x.like(p, p), 1);
            }
        }
    }

    /** "with as many PARTS, LIKE in order": as they are, not as they are when PLAIN. */
    private static void likeParts() {
        for (String kind : new String[] {"R", "C", "B", "L"}) {
            like(0, kind + "(ab)", kind + "(aba)");
            like(0, kind + "(ab)", kind + "(ab-)");
            like(0, kind + "(ab)", kind + "(ba)");
            like(0, kind + "(aab)", kind + "(aba)");
            like(0, kind + "(aab)", kind + "(abb)");
            like(0, kind + "(a-)", "a");
            like(0, kind + "(--)", "-");
            like(0, kind + "(a" + kind + "(bc))", kind + "(abc)");
            like(1, kind + "(abcdef)", kind + "(abcdef)");
            like(0, kind + "(abcdef)", kind + "(abcdel)");
        }
    }

    private static void like(int want, String one, String other) {
        TrailFinder x = new TrailFinder();
        int p = PiecesTest.make(x, one);
        int q = PiecesTest.make(x, other);
        check.due("like: " + one + ", " + other, x.like(p, q), want);
        check.due("like: " + other + ", " + one, x.like(q, p), want);
    }

    /** SIZE 60 at most: trees of 30 levels and pieces of 59 parts that differ at their last place. */
    private static void likeDeep() {
        TrailFinder x = new TrailFinder();
        int a = x.deed(0);
        int b = x.deed(1);
        int p = deep(x, a, a);
        int q = deep(x, a, a);
        int r = deep(x, b, a);
        check.due("like: the deepest's size", x.piece(p, 3), 59);
        check.due("like: 30 levels, alike", x.like(p, q), 1);
        check.due("like: 30 levels, unlike below", x.like(p, r), 0);
        TrailFinder y = new TrailFinder();
        y.deed(0);
        y.deed(1);
        int fifty8 = Edges.wide(y, 2, 0, 58);
        int one = y.more(fifty8, 0);
        int other = y.more(fifty8, 1);
        check.due("like: 59 parts, alike", y.like(one, y.more(fifty8, 0)), 1);
        check.due("like: 59 parts, the last one unlike", y.like(one, other), 0);
        check.due("like: 58 parts and 59", y.like(fifty8, one), 0);
    }

    /** Loops in loops, 29 of them. */
    private static int deep(TrailFinder x, int inmost, int others) {
        int p = inmost;
        for (int level = 0; level < 29; level++) p = x.join(5, p, others);
        return p;
    }

    /** 14: "BAD." */
    private static void likeBad() {
        TrailFinder three = kinds();
        Edges.within(check, "like: p of 3", 0, 2, BAD, p -> three.like(p, 0));
        Edges.within(check, "like: q of 3", 0, 2, BAD, q -> three.like(0, q));
        TrailFinder all = deeds(200);
        Edges.within(check, "like: p of 200", 0, 199, BAD, p -> all.like(p, 0));
        Edges.within(check, "like: q of 200", 0, 199, BAD, q -> all.like(0, q));
        check.due("like: no such piece and itself", three.like(3, 3), BAD);
    }
}
