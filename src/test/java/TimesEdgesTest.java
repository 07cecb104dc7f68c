/** Promises 20 to 24 at their edges: each test names the document's words that it holds. */
final class TimesEdgesTest {
    private static final int BAD = Edges.BAD, NONE = Edges.NONE;
    private static final Check check = new Check("TimesEdgesTest");

    public static void main(String[] args) {
        workOfNone();
        workThatTellsBoth();
        workAtTheLimits();
        workBelowZero();
        workGreatest();
        workInTheLog();
        workBad();
        lagOfNone();
        lagThatTellsBoth();
        lagAtTheLimits();
        lagBelowZero();
        lagWhereOneFollows();
        lagInTheLog();
        lagBad();
        slowOfNone();
        slowSomeWaitIsTold();
        slowByWaitsTogether();
        slowThenTheLeast();
        slowToTheLast();
        slowInTheLog();
        slowBad();
        passesRightBehind();
        passesInTheLog();
        passesBad();
        countOfNothing();
        countAtTheLimits();
        countOfNames();
        countInTheLog();
        countUnlike();
        countPieces();
        countBad();
        check.end();
    }

    /** A log of one trail; each deed is name, BEGIN, END. */
    private static TrailFinder times(int[]... deeds) {
        TrailFinder x = new TrailFinder();
        x.open();
        for (int[] d : deeds) x.add(0, d[0], 0, d[1], d[2]);
        return x;
    }

    private static void work(String when, TrailFinder x, int name, int... want) {
        for (int what = 0; what < 4; what++) check.due("work: " + when + ", " + what, x.work(name, what), want[what]);
    }

    private static void lag(String when, TrailFinder x, int a, int b, int... want) {
        for (int what = 0; what < 4; what++) check.due("lag: " + when + ", " + what, x.lag(a, b, what), want[what]);
    }

    // ---- promise 20

    /** 20: "2 the greatest one (NONE: of none)". */
    private static void workOfNone() {
        work("no cases", new TrailFinder(), 0, 0, 0, NONE, 0);
        work("an empty trail", Edges.log(""), 11, 0, 0, NONE, 0);
        work("another name", times(new int[] {1, 2, 3}), 0, 0, 0, NONE, 0);
        work("missing ones alone", times(new int[] {0, -1, 3}), 0, 0, 0, NONE, 1);
        TrailFinder x = times(new int[] {0, 2, 3});
        x.cut(0);
        work("cut", x, 0, 0, 0, NONE, 0);
        x.add(0, 0, 0, 2, 4);
        x.drop(0, true);
        work("all dropped", x, 0, 0, 0, NONE, 0);
    }

    /** 20: "(.. of those that tell both)", "3 how many have BEGIN or END MISSING": one of them, the other, both. */
    private static void workThatTellsBoth() {
        work("BEGIN missing", times(new int[] {0, -1, 5}), 0, 0, 0, NONE, 1);
        work("END missing", times(new int[] {0, 5, -1}), 0, 0, 0, NONE, 1);
        work("both missing count once", times(new int[] {0, -1, -1}), 0, 0, 0, NONE, 1);
        work("BEGIN 0 is none missing", times(new int[] {0, 0, 5}), 0, 5, 1, 5, 0);
        work("END 0 is none missing", times(new int[] {0, 5, 0}), 0, -5, 1, -5, 0);
        work("both 0", times(new int[] {0, 0, 0}), 0, 0, 1, 0, 0);
        work("some of each", times(new int[] {0, 1, 2}, new int[] {0, -1, 2}, new int[] {0, 1, -1},
            new int[] {0, -1, -1}, new int[] {1, 0, 9}, new int[] {0, 0, 2}), 0, 3, 2, 2, 3);
    }

    /** "wholes from 0 to 1000000": the greatest times, and all of them together. */
    private static void workAtTheLimits() {
        work("the greatest", times(new int[] {11, 0, 1000000}), 11, 1000000, 1, 1000000, 0);
        work("the least", times(new int[] {0, 1000000, 0}), 0, -1000000, 1, -1000000, 0);
        TrailFinder x = new TrailFinder();
        TrailFinder y = new TrailFinder();
        TrailFinder z = new TrailFinder();
        for (int c = 0; c < 24; c++) {
            x.open();
            y.open();
            z.open();
            for (int i = 0; i < 6; i++) {
                x.add(c, 4, 0, 0, 1000000);
                y.add(c, 4, 0, 1000000, 0);
                z.add(c, 4, 0, 1000000, -1);
            }
        }
        work("144 of the greatest", x, 4, 144000000, 144, 1000000, 0);
        work("144 of the least", y, 4, -144000000, 144, -1000000, 0);
        work("144 missing", z, 4, 0, 0, NONE, 144);
    }

    /** 20: "(Times may be below 0.)" */
    private static void workBelowZero() {
        work("-1", times(new int[] {0, 1, 0}), 0, -1, 1, -1, 0);
        work("as great as NONE", times(new int[] {0, 3, 0}), 0, -3, 1, -3, 0);
        work("below NONE", times(new int[] {0, 9, 0}), 0, -9, 1, -9, 0);
        work("the greatest of those below 0", times(new int[] {0, 9, 0}, new int[] {0, 5, 0}, new int[] {0, 7, 0}),
            0, -21, 3, -5, 0);
        work("together 0", times(new int[] {0, 9, 0}, new int[] {0, 0, 9}), 0, 0, 2, 9, 0);
    }

    /** 20: "2 the greatest one": the first, one between, the last, of all cases. */
    private static void workGreatest() {
        work("the first", times(new int[] {0, 0, 9}, new int[] {0, 0, 5}), 0, 14, 2, 9, 0);
        work("the last", times(new int[] {0, 0, 5}, new int[] {0, 0, 9}), 0, 14, 2, 9, 0);
        TrailFinder x = times(new int[] {0, 0, 5}, new int[] {0, 0, 9}, new int[] {0, 0, 7});
        work("one between", x, 0, 21, 3, 9, 0);
        x.open();
        x.add(1, 0, 0, 1, 20);
        work("of another case", x, 0, 40, 4, 19, 0);
    }

    /** 20: "Of DEEDS of a NAME in THE LOG". */
    private static void workInTheLog() {
        TrailFinder x = times(new int[] {0, 0, 5}, new int[] {0, -1, 5}, new int[] {1, 0, 50});
        x.open();
        x.add(1, 0, 0, 0, 9);
        work("both", x, 0, 14, 2, 9, 1);
        x.drop(1, true);
        work("the greater one dropped", x, 0, 5, 1, 5, 1);
        x.drop(0, true);
        work("both dropped", x, 0, 0, 0, NONE, 0);
        x.drop(1, false);
        work("one is back", x, 0, 9, 1, 9, 0);
    }

    /** 20: "BAD." */
    private static void workBad() {
        TrailFinder x = times(new int[] {0, 0, 9}, new int[] {11, 0, 9});
        TrailFinder empty = new TrailFinder();
        for (int k = 0; k < 4; k++) {
            int what = k;
            Edges.within(check, "work: name, " + what, 0, 11, BAD, name -> x.work(name, what));
            Edges.within(check, "work: name, of no cases, " + what, 0, 11, BAD, name -> empty.work(name, what));
        }
        Edges.within(check, "work: what", 0, 3, BAD, what -> x.work(0, what));
        Edges.within(check, "work: what of no cases", 0, 3, BAD, what -> empty.work(0, what));
    }

    // ---- promise 21

    /** 21: "likewise .. (NONE: of none)". */
    private static void lagOfNone() {
        lag("no cases", new TrailFinder(), 0, 0, 0, 0, NONE, 0);
        lag("an empty trail", Edges.log(""), 1, 0, 0, 0, NONE, 0);
        lag("a trail of one", Edges.log("a"), 0, 0, 0, 0, NONE, 0);
        lag("the other way", Edges.log("ab"), 0, 1, 0, 0, NONE, 0);
        lag("one between", Edges.log("acb"), 1, 0, 0, 0, NONE, 0);
        lag("another case", Edges.log("a", "b"), 1, 0, 0, 0, NONE, 0);
        lag("missing ones alone", times(new int[] {0, 1, -1}, new int[] {1, 2, 3}), 1, 0, 0, 0, NONE, 1);
        TrailFinder x = Edges.log("ab");
        x.drop(0, true);
        lag("all dropped", x, 1, 0, 0, 0, NONE, 0);
    }

    /** 21: "of BEGIN of that a less END of that b", and no other of their times. */
    private static void lagThatTellsBoth() {
        lag("all told", times(new int[] {0, 1, 10}, new int[] {1, 17, 30}), 1, 0, 7, 1, 7, 0);
        lag("END of b missing", times(new int[] {0, 1, -1}, new int[] {1, 17, 30}), 1, 0, 0, 0, NONE, 1);
        lag("BEGIN of a missing", times(new int[] {0, 1, 10}, new int[] {1, -1, 30}), 1, 0, 0, 0, NONE, 1);
        lag("both missing count once", times(new int[] {0, 1, -1}, new int[] {1, -1, 30}), 1, 0, 0, 0, NONE, 1);
        lag("BEGIN of b missing", times(new int[] {0, -1, 10}, new int[] {1, 17, 30}), 1, 0, 7, 1, 7, 0);
        lag("END of a missing", times(new int[] {0, 1, 10}, new int[] {1, 17, -1}), 1, 0, 7, 1, 7, 0);
        lag("0 is none missing", times(new int[] {0, 1, 0}, new int[] {1, 0, -1}), 1, 0, 0, 1, 0, 0);
    }

    /** "wholes from 0 to 1000000": the greatest waits, and all of them together. */
    private static void lagAtTheLimits() {
        lag("the greatest", times(new int[] {0, -1, 0}, new int[] {11, 1000000, -1}), 11, 0, 1000000, 1, 1000000, 0);
        lag("the least", times(new int[] {11, -1, 1000000}, new int[] {0, 0, -1}), 0, 11, -1000000, 1, -1000000, 0);
        TrailFinder x = new TrailFinder();
        TrailFinder y = new TrailFinder();
        for (int c = 0; c < 24; c++) {
            x.open();
            y.open();
            for (int i = 0; i < 6; i++) {
                x.add(c, 11, 0, 1000000, 0);
                y.add(c, 11, 0, -1, -1);
            }
        }
        lag("120 of the greatest", x, 11, 11, 120000000, 120, 1000000, 0);
        check.due("slow: 120 of the greatest", x.slow(0), 143);
        lag("120 missing", y, 11, 11, 0, 0, NONE, 120);
        check.due("slow: 120 missing", y.slow(0), NONE);
    }

    /** 21: "likewise": waits may be below 0. */
    private static void lagBelowZero() {
        lag("as great as NONE", times(new int[] {0, 0, 3}, new int[] {1, 0, 0}), 1, 0, -3, 1, -3, 0);
        lag("the greatest of those below 0", times(new int[] {0, 0, 9}, new int[] {0, 0, 5}, new int[] {0, 0, 7},
            new int[] {0, 0, 0}), 0, 0, -21, 3, -5, 0);
        lag("above and below", times(new int[] {0, 0, 9}, new int[] {0, 0, 5}, new int[] {0, 14, 0}), 0, 0, 0, 2, 9, 0);
    }

    /** 21: "Where a FOLLOWS b": the first two of a TRAIL, the last two, a NAME behind itself. */
    private static void lagWhereOneFollows() {
        TrailFinder x = times(new int[] {0, 0, 1}, new int[] {1, 3, 0}, new int[] {2, 0, 0}, new int[] {2, 5, 0},
            new int[] {0, 0, 10}, new int[] {1, 50, 0});
        lag("the first and the last", x, 1, 0, 42, 2, 40, 0);
        lag("one behind itself", x, 2, 2, 5, 1, 5, 0);
        lag("between", x, 2, 1, 0, 1, 0, 0);
        x.cut(0);
        lag("the last is cut", x, 1, 0, 2, 1, 2, 0);
    }

    /** 21: ".. in THE LOG". */
    private static void lagInTheLog() {
        TrailFinder x = times(new int[] {0, 0, 1}, new int[] {1, 3, 0});
        x.open();
        x.add(1, 0, 0, 0, 1);
        x.add(1, 1, 0, 9, 0);
        x.open();
        x.add(2, 0, 0, 0, -1);
        x.add(2, 1, 0, 9, 0);
        lag("all", x, 1, 0, 10, 2, 8, 1);
        x.drop(1, true);
        lag("one dropped", x, 1, 0, 2, 1, 2, 1);
        x.drop(2, true);
        lag("the missing one dropped", x, 1, 0, 2, 1, 2, 0);
    }

    /** 21: "BAD." */
    private static void lagBad() {
        TrailFinder x = Edges.log("al", "la", "aa");
        TrailFinder empty = new TrailFinder();
        for (int k = 0; k < 4; k++) {
            int what = k;
            Edges.within(check, "lag: a, " + what, 0, 11, BAD, a -> x.lag(a, 0, what));
            Edges.within(check, "lag: b, " + what, 0, 11, BAD, b -> x.lag(0, b, what));
            Edges.within(check, "lag: a, of no cases, " + what, 0, 11, BAD, a -> empty.lag(a, 0, what));
            Edges.within(check, "lag: b, of no cases, " + what, 0, 11, BAD, b -> empty.lag(0, b, what));
        }
        Edges.within(check, "lag: what", 0, 3, BAD, what -> x.lag(0, 0, what));
        Edges.within(check, "lag: what of no cases", 0, 3, BAD, what -> empty.lag(0, 0, what));
    }

    // ---- promise 22

    /** 22: "NONE": there is no i-th, or none at all. */
    private static void slowOfNone() {
        TrailFinder dropped = Edges.log("ab");
        dropped.drop(0, true);
        for (int i : new int[] {0, 1, 143, 144, Edges.MOST}) {
            check.due("slow: no cases, " + i, new TrailFinder().slow(i), NONE);
            check.due("slow: an empty trail, " + i, Edges.log("").slow(i), NONE);
            check.due("slow: trails of one, " + i, Edges.log("a", "b").slow(i), NONE);
            check.due("slow: all dropped, " + i, dropped.slow(i), NONE);
        }
        check.due("slow: the first", Edges.log("ab").slow(0), 12);
        check.due("slow: no second", Edges.log("ab").slow(1), NONE);
    }

    /** 22: "where a FOLLOWS b and some wait is told": one of several is enough. */
    private static void slowSomeWaitIsTold() {
        check.due("slow: END of b missing", times(new int[] {0, 0, -1}, new int[] {1, 5, 5}).slow(0), NONE);
        check.due("slow: BEGIN of a missing", times(new int[] {0, 0, 5}, new int[] {1, -1, 5}).slow(0), NONE);
        TrailFinder x = times(new int[] {0, 0, -1}, new int[] {1, 5, 5}, new int[] {0, -1, 5}, new int[] {1, 5, 5});
        check.due("slow: the second of two is told", x.slow(0), 12);
        check.due("slow: a behind b is not", x.slow(1), NONE);
        check.due("slow: a wait of 0 is told", times(new int[] {0, 0, 0}, new int[] {1, 0, 0}).slow(0), 12);
        check.due("slow: one below 0 is told", times(new int[] {0, 0, 9}, new int[] {1, 0, 0}).slow(0), 12);
        TrailFinder y = times(new int[] {0, 0, 9}, new int[] {0, 9, 5}, new int[] {1, 1, 9}, new int[] {0, 13, 0},
            new int[] {0, 0, 0});
        // a behind a 0 and 0, b behind a -4, a behind b 4.
        slows("waits together 0", y, 1, 0, 12, NONE);
    }

    private static void slows(String when, TrailFinder x, int... want) {
        for (int i = 0; i < want.length; i++) check.due("slow: " + when + ", " + i, x.slow(i), want[i]);
    }

    /** 22: "by the greatest waits together": not by the greatest one, nor by how many there are. */
    private static void slowByWaitsTogether() {
        TrailFinder x = times(new int[] {0, 0, 0}, new int[] {1, 10, 0}, new int[] {2, 6, 0}, new int[] {1, 3, 3},
            new int[] {2, 9, 0});
        // b behind a 10; c behind b 6 and 6; b behind c 3.
        slows("12, 10, 3", x, 2 * 12 + 1, 12, 12 + 2, NONE);
        TrailFinder y = times(new int[] {0, 0, 9}, new int[] {1, 8, 9}, new int[] {2, 4, 9}, new int[] {3, 6, 9});
        slows("-1, -3, -5", y, 12, 3 * 12 + 2, 2 * 12 + 1, NONE);
        TrailFinder z = Edges.log("");
        z.add(0, 5, 0, 0, 0);
        z.add(0, 4, 0, 7, 0);
        z.open();
        z.add(1, 5, 0, 0, 0);
        z.add(1, 3, 0, 13, 0);
        z.open();
        z.add(2, 5, 0, 0, 0);
        z.add(2, 4, 0, 7, 0);
        slows("of two cases together", z, 4 * 12 + 5, 3 * 12 + 5, NONE);
        // A late END and a late BEGIN make no long wait: b behind a 1, c behind b 50.
        slows("1, 50", times(new int[] {0, 0, 900}, new int[] {1, 901, 0}, new int[] {2, 50, 0}), 2 * 12 + 1, 12, NONE);
    }

    /** 22: "then the least 12 a + b: 12 a + b": a is what FOLLOWS. */
    private static void slowThenTheLeast() {
        slows("one pair", Edges.log("al"), 11 * 12, NONE);
        slows("the other way", Edges.log("la"), 11, NONE);
        slows("the least of all", Edges.log("aa"), 0, NONE);
        slows("the greatest of all", Edges.log("ll"), 143, NONE);
        slows("alike", Edges.log("bacab"), 1, 2, 12, 24, NONE);
        slows("alike, the first and the last", Edges.log("llaa"), 0, 11, 143, NONE);
        slows("by a ahead of b", Edges.log("lb", "ac"), 12 + 11, 24, NONE);
    }

    /** 22: "The i-th of all a, b": as many as 24 TRAILS can have. */
    private static void slowToTheLast() {
        TrailFinder x = new TrailFinder();
        for (int c = 0; c < 24; c++) {
            StringBuilder trail = new StringBuilder();
            int name = c % 12;
            for (int i = 0; i < 6; i++) {
                trail.append((char) ('a' + name));
                name = (name + (c < 12 ? i + 1 : i + 6)) % 12;
            }
            Edges.trail(x, trail.toString());
        }
        // Each a is 1 to 10 names behind b, round the twelve.
        int i = 0;
        for (int pair = 0; pair < 144; pair++) {
            int behind = Math.floorMod(pair / 12 - pair % 12, 12);
            if (behind >= 1 && behind <= 10) check.due("slow: of 120, " + i, x.slow(i++), pair);
        }
        check.due("slow: 120 of them", i, 120);
        check.due("slow: behind the last", x.slow(120), NONE);
    }

    /** THE LOG: what is DROPPED tells no wait. */
    private static void slowInTheLog() {
        TrailFinder x = Edges.log("ab", "bc", "ab");
        slows("all", x, 12, 25, NONE);
        x.drop(0, true);
        slows("one of two dropped", x, 12, 25, NONE);
        x.drop(2, true);
        slows("both dropped", x, 25, NONE);
        x.drop(0, false);
        slows("one is back", x, 12, 25, NONE);
        x.cut(0);
        slows("cut", x, 25, NONE);
        // What was told before is forgotten: b behind a 30 and 1, c behind b 7.
        TrailFinder y = times(new int[] {0, 0, 0}, new int[] {1, 30, 0});
        int[][] waits = {{0, 1}, {1, 7}};
        for (int c = 1; c <= 2; c++) {
            y.open();
            y.add(c, waits[c - 1][0], 0, 0, 0);
            y.add(c, waits[c - 1][0] + 1, 0, waits[c - 1][1], 0);
        }
        slows("31, 7", y, 12, 25, NONE);
        y.drop(0, true);
        slows("1, 7", y, 25, 12, NONE);
        y.drop(0, false);
        slows("31, 7 again", y, 12, 25, NONE);
    }

    /** 22: "BAD: i below 0", also where there is none. */
    private static void slowBad() {
        for (int i : new int[] {-1, -2, -3, -1000, Edges.LEAST}) {
            check.due("slow(" + i + ")", Edges.log("ab").slow(i), BAD);
            check.due("slow(" + i + ") of no cases", new TrailFinder().slow(i), BAD);
        }
    }

    // ---- promise 23

    private static TrailFinder hands(int... hands) {
        TrailFinder x = new TrailFinder();
        x.open();
        for (int i = 0; i < hands.length; i++) x.add(0, i, hands[i], -1, -1);
        return x;
    }

    /** 23: "How often a DEED by HAND g stands right behind one by HAND h". */
    private static void passesRightBehind() {
        check.due("passes: no cases", new TrailFinder().passes(0, 0), 0);
        check.due("passes: an empty trail", Edges.log("").passes(0, 0), 0);
        check.due("passes: of one", hands(0).passes(0, 0), 0);
        check.due("passes: h to g", hands(1, 2).passes(1, 2), 1);
        check.due("passes: not g to h", hands(1, 2).passes(2, 1), 0);
        check.due("passes: to itself", hands(3, 3, 3).passes(3, 3), 2);
        check.due("passes: the first and the last two", hands(0, 7, 1, 1, 0, 7).passes(0, 7), 2);
        check.due("passes: not with one between", hands(0, 1, 7).passes(0, 7), 0);
        check.due("passes: six", hands(7, 7, 7, 7, 7, 7).passes(7, 7), 5);
        check.due("passes: by hands, not names", Edges.log("ab").passes(0, 1), 0);
        check.due("passes: in all of 24", Edges.logOf24("abcdef").passes(0, 0), 120);
        check.due("passes: not from case to case", Edges.log("a", "a").passes(0, 0), 0);
    }

    /** 23: ".. in THE LOG". */
    private static void passesInTheLog() {
        TrailFinder x = hands(1, 2, 1, 2);
        x.open();
        x.add(1, 0, 1, 0, 0);
        x.add(1, 0, 2, 0, 0);
        check.due("passes: both", x.passes(1, 2), 3);
        x.drop(0, true);
        check.due("passes: one dropped", x.passes(1, 2), 1);
        x.drop(1, true);
        check.due("passes: both dropped", x.passes(1, 2), 0);
        x.drop(0, false);
        x.cut(0);
        check.due("passes: one is back, cut", x.passes(1, 2), 1);
    }

    /** 23: "BAD." */
    private static void passesBad() {
        for (TrailFinder x : new TrailFinder[] {new TrailFinder(), hands(0, 7, 0)}) {
            Edges.within(check, "passes: h", 0, 7, BAD, h -> x.passes(h, 0));
            Edges.within(check, "passes: g", 0, 7, BAD, g -> x.passes(0, g));
            check.due("passes: both", x.passes(8, -1), BAD);
        }
    }

    // ---- promise 24

    private static void counts(String when, TrailFinder x, int... want) {
        for (int what = 0; what < 6; what++) check.due("count: " + when + ", " + what, x.count(what), want[what]);
    }

    /** Of nothing: no CASES, empty TRAILS, all DROPPED. */
    private static void countOfNothing() {
        counts("new", new TrailFinder(), 0, 0, 0, 0, 0, 0);
        counts("an empty trail", Edges.log(""), 1, 1, 0, 0, 0, 1);
        counts("24 empty trails", Edges.logOf24(""), 24, 24, 0, 0, 0, 1);
        TrailFinder x = Edges.logOf24("abcdef");
        Edges.dropAll(x);
        counts("all dropped", x, 24, 0, 0, 0, 0, 0);
        TrailFinder y = Edges.log("ab");
        y.cut(0);
        y.cut(0);
        counts("emptied", y, 1, 1, 0, 0, 0, 1);
    }

    /** 24 CASES, 6 DEEDS each, 12 NAMES, 200 PIECES, 24 unlike TRAILS. */
    private static void countAtTheLimits() {
        TrailFinder x = new TrailFinder();
        for (int c = 0; c < 24; c++) {
            x.open();
            for (int i = 0; i < 6; i++) x.add(c, i < 5 ? (c + i) % 12 : c / 12, i, 0, 0);
        }
        Edges.fill(x, 200);
        counts("full", x, 24, 24, 144, 12, 200, 24);
        x.open();
        x.add(0, 0, 0, 0, 0);
        x.deed(0);
        counts("and refused", x, 24, 24, 144, 12, 200, 24);
    }

    /** 24: "3 NAMES in them": each once, the least and the greatest, too. */
    private static void countOfNames() {
        check.due("count: names of a", Edges.log("a").count(3), 1);
        check.due("count: names of l", Edges.log("l").count(3), 1);
        check.due("count: names of aaaaaa", Edges.log("aaaaaa").count(3), 1);
        check.due("count: names of al, la", Edges.log("al", "la").count(3), 2);
        check.due("count: names of all", Edges.log("abcdef", "ghijkl").count(3), 12);
        check.due("count: names of all but one", Edges.log("abcdef", "ghijk").count(3), 11);
    }

    /** 24: "1 TRAILS of THE LOG, 2 DEEDS of these, 3 NAMES in them", 5 of THE LOG too; 0 CASES, all. */
    private static void countInTheLog() {
        TrailFinder x = Edges.log("abc", "de", "", "abc");
        counts("all", x, 4, 4, 8, 5, 0, 3);
        x.drop(0, true);
        counts("one of two alike dropped", x, 4, 3, 5, 5, 0, 3);
        x.drop(3, true);
        counts("both dropped", x, 4, 2, 2, 2, 0, 2);
        x.drop(2, true);
        counts("the empty one dropped", x, 4, 1, 2, 2, 0, 1);
        x.drop(0, false);
        counts("one is back", x, 4, 2, 5, 5, 0, 2);
        x.cut(0);
        counts("cut", x, 4, 2, 4, 4, 0, 2);
    }

    /** 24: "5 unlike TRAILS (by NAMES)": by all NAMES, in order; not by HANDS, not by times. */
    private static void countUnlike() {
        check.due("count: alike", Edges.log("ab", "ab").count(5), 1);
        check.due("count: one longer", Edges.log("ab", "aba").count(5), 2);
        check.due("count: one empty", Edges.log("", "a").count(5), 2);
        check.due("count: another order", Edges.log("ab", "ba").count(5), 2);
        check.due("count: the sixth unlike", Edges.log("aaaaaa", "aaaaal").count(5), 2);
        check.due("count: the first unlike", Edges.log("aaaaaa", "laaaaa").count(5), 2);
        check.due("count: a once, a twice, a up to six", Edges.log("a", "aa", "aaa", "aaaa", "aaaaa", "aaaaaa").count(5), 6);
        check.due("count: two and two", Edges.log("ab", "ba", "ab", "ba").count(5), 2);
        TrailFinder x = Edges.log("a");
        x.open();
        x.add(1, 0, 7, 5, -1);
        check.due("count: other hands and times", x.count(5), 1);
    }

    /** 24: "4 PIECES", as they come and as they do not. */
    private static void countPieces() {
        TrailFinder x = Edges.log("ab");
        check.due("count: a deed", x.deed(0) + x.count(4), 1);
        x.join(2, 0, 0);
        check.due("count: joined", x.count(4), 2);
        x.more(1, 0);
        check.due("count: one more", x.count(4), 3);
        x.plain(2);
        check.due("count: plain", x.count(4), 7);
        x.find();
        check.due("count: found", x.count(4), 10);
        x.deed(12);
        x.join(6, 0, 0);
        x.more(0, 0);
        x.plain(10);
        check.due("count: none of bad ones", x.count(4), 10);
    }

    /** 24: "BAD." */
    private static void countBad() {
        Edges.within(check, "count: what", 0, 5, BAD, what -> new TrailFinder().count(what));
        Edges.within(check, "count: what of a full one", 0, 5, BAD, what -> Edges.logOf24("abcdef").count(what));
    }
}
