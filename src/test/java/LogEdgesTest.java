/** Promises 1 to 8 at their edges: each test names the document's words that it holds. */
final class LogEdgesTest {
    private static final int BAD = Edges.BAD, FULL = Edges.FULL, NONE = Edges.NONE, NOT_TOLD = Edges.NOT_TOLD;
    private static final Check check = new Check("LogEdgesTest");

    public static void main(String[] args) {
        anEmptyLog();
        noPieces();
        casesAsTheyCome();
        openFull();
        openFullWithDroppedAndEmptied();
        addHowMany();
        addNumbersAtTheirLimits();
        addBadCase();
        addBadDropped();
        addFull();
        cutHowMany();
        cutBad();
        dropAnswersWhatWas();
        dropBad();
        toldOfDeeds();
        toldOfTheCase();
        toldOfDropped();
        toldBad();
        followsRightBehind();
        followsInTheLog();
        followsBad();
        standsBeginsAndEnds();
        standsOfEmpty();
        standsInTheLog();
        standsBad();
        check.end();
    }

    // ---- promise 1

    /** 1: "An empty LOG": each call is the first one of its object. */
    private static void anEmptyLog() {
        check.due("new: open()", new TrailFinder().open(), 0);
        check.due("new: add", new TrailFinder().add(0, 0, 0, 0, 0), BAD);
        check.due("new: cut", new TrailFinder().cut(0), BAD);
        check.due("new: drop, true", new TrailFinder().drop(0, true), BAD);
        check.due("new: drop, false", new TrailFinder().drop(0, false), BAD);
        check.due("new: told, how many", new TrailFinder().told(0, -1, 0), NOT_TOLD);
        check.due("new: told, dropped", new TrailFinder().told(0, -1, 1), NOT_TOLD);
        check.due("new: told, a deed", new TrailFinder().told(0, 0, 0), NOT_TOLD);
        for (int name = 0; name < 12; name += 11) {
            check.due("new: follows " + name, new TrailFinder().follows(name, 11 - name), 0);
            for (int what = 0; what < 3; what++) check.due("new: stands", new TrailFinder().stands(name, what), 0);
            for (int what = 0; what < 4; what++) {
                check.due("new: work " + what, new TrailFinder().work(name, what), what == 2 ? NONE : 0);
                check.due("new: lag " + what, new TrailFinder().lag(name, name, what), what == 2 ? NONE : 0);
            }
        }
        check.due("new: slow(0)", new TrailFinder().slow(0), NONE);
        check.due("new: passes(0, 0)", new TrailFinder().passes(0, 0), 0);
        check.due("new: passes(7, 7)", new TrailFinder().passes(7, 7), 0);
        for (int what = 0; what < 6; what++) check.due("new: count(" + what + ")", new TrailFinder().count(what), 0);
    }

    /** 1: "no PIECES". */
    private static void noPieces() {
        for (int what = 0; what < 63; what++) check.due("new: piece(0, " + what + ")", new TrailFinder().piece(0, what), BAD);
        for (int kind = 2; kind < 6; kind++) check.due("new: join " + kind, new TrailFinder().join(kind, 0, 0), BAD);
        check.due("new: more", new TrailFinder().more(0, 0), BAD);
        check.due("new: plain", new TrailFinder().plain(0), BAD);
        check.due("new: like", new TrailFinder().like(0, 0), BAD);
        check.due("new: shortest", new TrailFinder().shortest(0), BAD);
        for (int what = 0; what < 4; what++) check.due("new: fit " + what, new TrailFinder().fit(0, what), BAD);
        TrailFinder x = Edges.log("a");
        check.due("no pieces: price", x.price(0, 0), BAD);
        check.due("no pieces: both", x.both(0, 0), BAD);
        check.due("new: deed(0)", new TrailFinder().deed(0), 0);
        check.due("new: deed(-1)", new TrailFinder().deed(-1), 0);
        check.due("new: find()", new TrailFinder().find(), 0);
    }

    // ---- promise 2

    /** "CASES 0, 1, .. as they come, 24 at most"; 2: "A CASE with an empty TRAIL: its number." */
    private static void casesAsTheyCome() {
        TrailFinder x = new TrailFinder();
        for (int c = 0; c < 24; c++) {
            check.due("open: no case " + c + " yet", x.told(c, -1, 0), NOT_TOLD);
            check.due("open: number " + c, x.open(), c);
            check.due("open: cases " + c, x.count(0), c + 1);
            check.due("open: empty trail " + c, x.told(c, -1, 0), 0);
            check.due("open: no deed " + c, x.told(c, 0, 0), NOT_TOLD);
            check.due("open: is not dropped " + c, x.told(c, -1, 1), 0);
            x.add(c, c % 12, 0, 0, 0);
            x.drop(c, c % 2 == 1);
        }
        check.due("open: a dropped case's number is not used again", x.count(1), 12);
    }

    /** 2: "FULL: 24." */
    private static void openFull() {
        TrailFinder x = new TrailFinder();
        for (int c = 0; c < 23; c++) x.open();
        check.due("open: the 24th", x.open(), 23);
        check.due("open: the 25th", x.open(), FULL);
        check.due("open: the 25th, again", x.open(), FULL);
        check.due("open: 24 cases", x.count(0), 24);
        check.due("open: the 24th takes deeds", x.add(23, 0, 0, 0, 0), 1);
        check.due("open: there is no 25th", x.add(24, 0, 0, 0, 0), BAD);
        check.due("open: none is told of the 25th", x.told(24, -1, 0), NOT_TOLD);
    }

    /** 2: "FULL: 24": CASES, not TRAILS of THE LOG. */
    private static void openFullWithDroppedAndEmptied() {
        TrailFinder x = Edges.logOf24("a");
        for (int c = 0; c < 24; c++) x.cut(c);
        check.due("open: 24 emptied", x.open(), FULL);
        Edges.dropAll(x);
        check.due("open: 24 dropped", x.open(), FULL);
        check.due("open: still 24", x.count(0), 24);
    }

    // ---- promise 3

    /** 3: "A DEED more at the end of a TRAIL: how many it has." */
    private static void addHowMany() {
        TrailFinder x = Edges.log("", "b");
        for (int i = 0; i < 6; i++) {
            check.due("add: how many, " + i, x.add(0, i, i, i, i), i + 1);
            check.due("add: at the end, " + i, x.told(0, i, 0), i);
            check.due("add: the first stays, " + i, x.told(0, 0, 0), 0);
            check.due("add: no other trail", x.told(1, -1, 0), 1);
        }
    }

    /** "a NAME 0 to 11, a HAND 0 to 7, a BEGIN and an END (wholes from 0 to 1000000, or MISSING)"; 3: "BAD: .." */
    private static void addNumbersAtTheirLimits() {
        int[] least = {0, 0, -1, -1};
        int[] most = {11, 7, 1000000, 1000000};
        String[] what = {"NAME", "HAND", "BEGIN", "END"};
        for (int k = 0; k < 4; k++) {
            int at = k;
            Edges.within(check, "add: " + what[k], least[k], most[k], BAD, n -> addWith(Edges.log(""), at, n));
            for (int n : new int[] {least[k], least[k] + 1, most[k] - 1, most[k]}) {
                TrailFinder x = Edges.log("");
                check.due("add: " + what[k] + " " + n, addWith(x, k, n), 1);
                for (int i = 0; i < 4; i++) check.due("add: told " + what[i], x.told(0, 0, i), i == k ? n : 5);
            }
            TrailFinder y = Edges.log("");
            check.due("add: " + what[k] + " too small", addWith(y, k, least[k] - 1), BAD);
            check.due("add: " + what[k] + " too great", addWith(y, k, most[k] + 1), BAD);
            check.due("add: none came with a bad " + what[k], y.told(0, -1, 0), 0);
        }
    }

    private static int addWith(TrailFinder x, int at, int number) {
        int[] deed = {5, 5, 5, 5};
        deed[at] = number;
        return x.add(0, deed[0], deed[1], deed[2], deed[3]);
    }

    /** 3: "BAD: the CASE". */
    private static void addBadCase() {
        Edges.within(check, "add: CASE of 1", 0, 0, BAD, c -> Edges.log("").add(c, 0, 0, 0, 0));
        Edges.within(check, "add: CASE of 23", 0, 22, BAD, c -> firstCases(23).add(c, 0, 0, 0, 0));
        Edges.within(check, "add: CASE of 24", 0, 23, BAD, c -> firstCases(24).add(c, 0, 0, 0, 0));
    }

    private static TrailFinder firstCases(int cases) {
        TrailFinder x = new TrailFinder();
        for (int c = 0; c < cases; c++) x.open();
        return x;
    }

    /** 3: "BAD: the CASE (also DROPPED)". */
    private static void addBadDropped() {
        TrailFinder x = Edges.log("", "ab");
        x.drop(0, true);
        x.drop(1, true);
        check.due("add: to a dropped empty trail", x.add(0, 0, 0, 0, 0), BAD);
        check.due("add: to a dropped trail", x.add(1, 0, 0, 0, 0), BAD);
        check.due("add: none came to the empty one", x.told(0, -1, 0), 0);
        check.due("add: none came to the other", x.told(1, -1, 0), 2);
        x.drop(1, false);
        check.due("add: dropped no more", x.add(1, 0, 0, 0, 0), 3);
        check.due("add: the other one still is", x.add(0, 0, 0, 0, 0), BAD);
    }

    /** "a TRAIL: up to 6 DEEDS in a row"; 3: "FULL: 6." */
    private static void addFull() {
        TrailFinder x = Edges.log("abcde", "abcdef");
        check.due("add: the sixth", x.add(0, 11, 7, 1, 2), 6);
        check.due("add: the seventh", x.add(0, 10, 6, 3, 4), FULL);
        check.due("add: the seventh, again", x.add(0, 10, 6, 3, 4), FULL);
        check.due("add: still 6", x.told(0, -1, 0), 6);
        check.due("add: the sixth stays", x.told(0, 5, 0), 11);
        check.due("add: the other one's seventh", x.add(1, 0, 0, 0, 0), FULL);
        check.due("add: cut to 5", x.cut(0), 5);
        check.due("add: a sixth again", x.add(0, 9, 5, 3, 4), 6);
        check.due("add: it is the sixth", x.told(0, 5, 0), 9);
        check.due("add: full again", x.add(0, 9, 5, 3, 4), FULL);
        TrailFinder y = Edges.logOf24("abcdef");
        check.due("add: the last case's seventh", y.add(23, 0, 0, 0, 0), FULL);
        check.due("add: all are there", y.count(2), 144);
    }

    // ---- promise 4

    /** 4: "The latest DEED of a TRAIL goes: how many are left." */
    private static void cutHowMany() {
        TrailFinder x = Edges.log("abcdef", "abcdef");
        for (int left = 5; left >= 0; left--) {
            check.due("cut: left", x.cut(0), left);
            check.due("cut: the latest is gone", x.told(0, left, 0), NOT_TOLD);
            if (left > 0) check.due("cut: the one ahead stays", x.told(0, left - 1, 0), left - 1);
        }
        check.due("cut: the other stays", x.told(1, -1, 0), 6);
        check.due("cut: a trail of one, left", Edges.log("a").cut(0), 0);
        x.add(0, 7, 6, 5, 4);
        check.due("cut: the new deed is the first", x.told(0, 0, 0), 7);
        check.due("cut: nothing of the old ones behind it", x.told(0, 1, 0), NOT_TOLD);
    }

    /** 4: "BAD: also an empty one, a DROPPED CASE." */
    private static void cutBad() {
        TrailFinder x = Edges.log("", "a", "ab");
        check.due("cut: an empty trail", x.cut(0), BAD);
        x.cut(1);
        check.due("cut: an emptied trail", x.cut(1), BAD);
        check.due("cut: it is still empty", x.told(1, -1, 0), 0);
        check.due("cut: and takes a first deed", x.add(1, 0, 0, 0, 0), 1);
        x.drop(0, true);
        x.drop(2, true);
        check.due("cut: a dropped empty one", x.cut(0), BAD);
        check.due("cut: a dropped one", x.cut(2), BAD);
        check.due("cut: it keeps its deeds", x.told(2, -1, 0), 2);
        x.drop(2, false);
        check.due("cut: dropped no more", x.cut(2), 1);
        Edges.within(check, "cut: CASE of 3", 0, 2, BAD, c -> Edges.log("a", "a", "a").cut(c));
        Edges.within(check, "cut: CASE of 24", 0, 23, BAD, c -> Edges.logOf24("a").cut(c));
    }

    // ---- promise 5

    /** 5: "A CASE is DROPPED, or not: 1 if it was, 0." */
    private static void dropAnswersWhatWas() {
        for (String trail : new String[] {"", "a", "abcdef"}) {
            TrailFinder x = Edges.log(trail, trail);
            check.due("drop: not dropped, stays so", x.drop(1, false), 0);
            check.due("drop: not dropped", x.drop(1, true), 0);
            check.due("drop: dropped, stays so", x.drop(1, true), 1);
            check.due("drop: is told", x.told(1, -1, 1), 1);
            check.due("drop: dropped", x.drop(1, false), 1);
            check.due("drop: is told again", x.told(1, -1, 1), 0);
            check.due("drop: not dropped again", x.drop(1, false), 0);
            check.due("drop: the other one never was", x.drop(0, false), 0);
            check.due("drop: its deeds stay", x.told(1, -1, 0), trail.length());
        }
    }

    /** 5: "BAD." */
    private static void dropBad() {
        for (boolean is : new boolean[] {true, false}) {
            Edges.within(check, "drop: CASE of 1, " + is, 0, 0, BAD, c -> Edges.log("").drop(c, is));
            Edges.within(check, "drop: CASE of 24, " + is, 0, 23, BAD, c -> Edges.logOf24("").drop(c, is));
        }
    }

    // ---- promise 6

    /** 6: "Of the DEED at i of a CASE: 0 NAME, 1 HAND, 2 BEGIN, 3 END (-1: MISSING)", from the first to the sixth. */
    private static void toldOfDeeds() {
        TrailFinder x = Edges.log("");
        int[][] deeds = {{0, 7, 0, 1000000}, {11, 0, -1, -1}, {5, 3, -1, 0}, {6, 4, 1000000, -1}, {1, 1, 9, 2}, {2, 6, 1, 1}};
        for (int[] d : deeds) x.add(0, d[0], d[1], d[2], d[3]);
        for (int i = 0; i < 6; i++) {
            for (int what = 0; what < 4; what++) {
                check.due("told(0, " + i + ", " + what + ")", x.told(0, i, what), deeds[i][what]);
            }
        }
    }

    /** 6: "of the CASE, i being -1: 0 how many DEEDS, 1 DROPPED (1, 0)". */
    private static void toldOfTheCase() {
        for (int deeds = 0; deeds <= 6; deeds++) {
            TrailFinder x = Edges.log("abcdef".substring(0, deeds));
            check.due("told: how many of " + deeds, x.told(0, -1, 0), deeds);
            check.due("told: not dropped", x.told(0, -1, 1), 0);
            x.drop(0, true);
            check.due("told: dropped", x.told(0, -1, 1), 1);
        }
    }

    /** 6: "a CASE (DROPPED, too)". */
    private static void toldOfDropped() {
        TrailFinder x = Edges.log("");
        x.add(0, 4, 3, 2, -1);
        x.drop(0, true);
        int[] want = {4, 3, 2, -1};
        for (int what = 0; what < 4; what++) check.due("told: dropped, " + what, x.told(0, 0, what), want[what]);
        check.due("told: dropped, how many", x.told(0, -1, 0), 1);
        check.due("told: dropped, no second deed", x.told(0, 1, 0), NOT_TOLD);
    }

    /** 6: "BAD answers -9." */
    private static void toldBad() {
        Edges.within(check, "told: CASE of 24", 0, 23, NOT_TOLD, c -> Edges.logOf24("a").told(c, 0, 0));
        Edges.within(check, "told: CASE of 1, how many", 0, 0, NOT_TOLD, c -> Edges.log("a").told(c, -1, 0));
        for (int deeds = 0; deeds <= 6; deeds++) {
            String letters = "abcdef".substring(0, deeds);
            Edges.within(check, "told: i of " + deeds, -1, deeds - 1, NOT_TOLD, i -> Edges.log(letters).told(0, i, 0));
        }
        Edges.within(check, "told: what of a deed", 0, 3, NOT_TOLD, what -> Edges.log("a").told(0, 0, what));
        Edges.within(check, "told: what of the sixth", 0, 3, NOT_TOLD, what -> Edges.log("abcdef").told(0, 5, what));
        Edges.within(check, "told: what of a case", 0, 1, NOT_TOLD, what -> Edges.log("a").told(0, -1, what));
        TrailFinder x = Edges.log("ab");
        x.cut(0);
        check.due("told: a deed that is gone", x.told(0, 1, 0), NOT_TOLD);
        for (int what = 0; what < 4; what++) check.due("told: i is -2", x.told(0, -2, what), NOT_TOLD);
    }

    // ---- promise 7

    /** "a FOLLOWS b as often as a DEED of NAME a stands right behind one of NAME b". */
    private static void followsRightBehind() {
        check.due("follows: of none", Edges.log("").follows(0, 0), 0);
        check.due("follows: of one", Edges.log("a").follows(0, 0), 0);
        check.due("follows: of two", Edges.log("aa").follows(0, 0), 1);
        check.due("follows: three in a row", Edges.log("aaa").follows(0, 0), 2);
        check.due("follows: six in a row", Edges.log("aaaaaa").follows(0, 0), 5);
        check.due("follows: the first two", Edges.log("abcccc").follows(1, 0), 1);
        check.due("follows: the last two", Edges.log("ccccab").follows(1, 0), 1);
        check.due("follows: not the other way", Edges.log("ab").follows(0, 1), 0);
        check.due("follows: not with one between", Edges.log("acb").follows(1, 0), 0);
        check.due("follows: not from case to case", Edges.log("a", "b").follows(1, 0), 0);
        check.due("follows: not round from the end", Edges.log("bca").follows(1, 0), 0);
        check.due("follows: least behind greatest", Edges.log("la").follows(0, 11), 1);
        check.due("follows: greatest behind least", Edges.log("al").follows(11, 0), 1);
        check.due("follows: in all of 24", Edges.logOf24("llllll").follows(11, 11), 120);
    }

    /** "THE LOG: the TRAILS of CASES that are not [DROPPED]"; 7: "How often a FOLLOWS b in THE LOG." */
    private static void followsInTheLog() {
        TrailFinder x = Edges.log("ab", "abab");
        check.due("follows: both", x.follows(1, 0), 3);
        x.drop(1, true);
        check.due("follows: one dropped", x.follows(1, 0), 1);
        x.drop(0, true);
        check.due("follows: no trails", x.follows(1, 0), 0);
        x.drop(1, false);
        check.due("follows: back in the log", x.follows(1, 0), 2);
        x.cut(1);
        check.due("follows: cut", x.follows(1, 0), 1);
    }

    /** 7: "BAD." */
    private static void followsBad() {
        TrailFinder x = Edges.logOf24("al");
        Edges.within(check, "follows: a", 0, 11, BAD, a -> x.follows(a, 0));
        Edges.within(check, "follows: b", 0, 11, BAD, b -> x.follows(0, b));
        check.due("follows: both", x.follows(-1, 12), BAD);
    }

    // ---- promise 8

    /** "NAMES that BEGIN a TRAIL, that END one"; 8: "0 .. a NAME BEGINS, ENDS (1); how often it stands there (2)". */
    private static void standsBeginsAndEnds() {
        stands("one deed begins and ends", Edges.log("a"), 0, 1, 1, 1);
        stands("begins", Edges.log("ab"), 0, 1, 0, 1);
        stands("ends", Edges.log("ab"), 1, 0, 1, 1);
        stands("neither", Edges.log("abc"), 1, 0, 0, 1);
        stands("both, of six", Edges.log("abbbba"), 0, 1, 1, 2);
        stands("the sixth ends", Edges.log("bbbbba"), 0, 0, 1, 1);
        stands("the greatest name, of all", Edges.logOf24("llllll"), 11, 24, 24, 144);
        stands("another name", Edges.logOf24("llllll"), 0, 0, 0, 0);
    }

    private static void stands(String when, TrailFinder x, int name, int... want) {
        for (int what = 0; what < 3; what++) check.due("stands: " + when + ", " + what, x.stands(name, what), want[what]);
    }

    /** An empty TRAIL has no NAME that BEGINS it, and none that ENDS it. */
    private static void standsOfEmpty() {
        for (int name = 0; name < 12; name++) {
            stands("no cases", new TrailFinder(), name, 0, 0, 0);
            stands("empty trails", Edges.log("", ""), name, 0, 0, 0);
        }
        TrailFinder x = Edges.log("ab");
        x.cut(0);
        stands("cut: a ends", x, 0, 1, 1, 1);
        stands("cut: b does not", x, 1, 0, 0, 0);
        x.cut(0);
        stands("cut to an empty one", x, 0, 0, 0, 0);
    }

    /** 8: "How many TRAILS of THE LOG". */
    private static void standsInTheLog() {
        TrailFinder x = Edges.log("aba", "a", "ba");
        stands("all", x, 0, 2, 3, 4);
        x.drop(0, true);
        stands("the first dropped", x, 0, 1, 2, 2);
        Edges.dropAll(x);
        stands("no trails", x, 0, 0, 0, 0);
        x.drop(2, false);
        stands("one is back", x, 0, 0, 1, 1);
    }

    /** 8: "BAD." */
    private static void standsBad() {
        TrailFinder x = Edges.logOf24("al");
        for (int what = 0; what < 3; what++) {
            int of = what;
            Edges.within(check, "stands: name, " + what, 0, 11, BAD, name -> x.stands(name, of));
        }
        Edges.within(check, "stands: what", 0, 2, BAD, what -> x.stands(0, what));
        Edges.within(check, "stands: what of an empty log", 0, 2, BAD, what -> new TrailFinder().stands(0, what));
    }
}
