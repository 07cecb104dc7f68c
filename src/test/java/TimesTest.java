/** Promises 20 to 24: work, lag, slow, passes, count. */
final class TimesTest {
    private static final int BAD = TrailFinder.BAD, NONE = TrailFinder.NONE;
    private static final int LEAST = Integer.MIN_VALUE, MOST = Integer.MAX_VALUE;
    private static final Check check = new Check("TimesTest");

    public static void main(String[] args) {
        work();
        lag();
        greatestTimes();
        slow();
        slowAlike();
        passes();
        count();
        check.end();
    }

    private static void four(String call, int[] got, int... want) {
        for (int what = 0; what < 4; what++) check.due(call + ", " + what, got[what], want[what]);
    }

    private static int[] works(TrailFinder x, int name) {
        return new int[] {x.work(name, 0), x.work(name, 1), x.work(name, 2), x.work(name, 3)};
    }

    private static int[] lags(TrailFinder x, int a, int b) {
        return new int[] {x.lag(a, b, 0), x.lag(a, b, 1), x.lag(a, b, 2), x.lag(a, b, 3)};
    }

    private static void work() {
        TrailFinder x = new TrailFinder();
        four("work: empty", works(x, 0), 0, 0, NONE, 0);
        x.open();
        x.open();
        x.add(0, 0, 0, 10, 25);
        x.add(0, 1, 0, 9, 2);
        x.add(0, 0, 0, -1, 30);
        x.add(1, 0, 0, 5, 9);
        x.add(1, 0, 0, 7, -1);
        x.add(1, 2, 0, -1, -1);
        x.add(1, 3, 0, 4, 4);
        four("work: two tell both", works(x, 0), 19, 2, 15, 2);
        four("work: below 0", works(x, 1), -7, 1, -7, 0);
        four("work: none tells", works(x, 2), 0, 0, NONE, 1);
        four("work: of no time", works(x, 3), 0, 1, 0, 0);
        four("work: none there", works(x, 11), 0, 0, NONE, 0);
        x.add(0, 1, 0, 9, 6);
        four("work: the greatest of two below 0", works(x, 1), -10, 2, -3, 0);
        x.drop(0, true);
        four("work: one dropped", works(x, 0), 4, 1, 4, 1);
        four("work: all dropped", works(x, 1), 0, 0, NONE, 0);
        int[][] bad = {{-1, 0}, {12, 0}, {0, -1}, {0, 4}, {MOST, 0}, {LEAST, 0}, {0, MOST}, {0, LEAST}};
        for (int[] b : bad) check.due("work(" + b[0] + ", " + b[1] + ")", x.work(b[0], b[1]), BAD);
    }

    private static void lag() {
        TrailFinder x = new TrailFinder();
        four("lag: empty", lags(x, 1, 0), 0, 0, NONE, 0);
        x.open();
        x.open();
        x.add(0, 0, 0, 0, 10);
        x.add(0, 1, 0, 17, 20);
        x.add(0, 0, 0, 18, 30);
        x.add(0, 1, 0, -1, 40);
        x.add(0, 1, 0, 41, -1);
        x.add(0, 0, 0, 50, 60);
        x.add(1, 0, 0, -1, 5);
        x.add(1, 1, 0, 8, -1);
        four("lag: b behind a", lags(x, 1, 0), 10, 2, 7, 1);
        four("lag: a behind b", lags(x, 0, 1), -2, 1, -2, 1);
        four("lag: b behind b", lags(x, 1, 1), 1, 1, 1, 0);
        four("lag: a behind a", lags(x, 0, 0), 0, 0, NONE, 0);
        x.drop(0, true);
        four("lag: one dropped", lags(x, 1, 0), 3, 1, 3, 0);
        four("lag: all dropped", lags(x, 0, 1), 0, 0, NONE, 0);
        int[][] bad = {{-1, 0, 0}, {12, 0, 0}, {0, -1, 0}, {0, 12, 0}, {0, 0, -1}, {0, 0, 4}, {MOST, 0, 0},
            {0, LEAST, 0}, {0, 0, MOST}, {0, 0, LEAST}};
        for (int[] b : bad) {
            check.due("lag(" + b[0] + ", " + b[1] + ", " + b[2] + ")", x.lag(b[0], b[1], b[2]), BAD);
        }
    }

    private static void greatestTimes() {
        TrailFinder x = new TrailFinder();
        for (int c = 0; c < 24; c++) {
            x.open();
            for (int i = 0; i < 6; i++) x.add(c, 3, 0, 0, 1000000);
        }
        four("work: of all", works(x, 3), 144000000, 144, 1000000, 0);
        four("lag: of all", lags(x, 3, 3), -120000000, 120, -1000000, 0);
        check.due("slow: of all", x.slow(0), 39);
        check.due("slow: no other", x.slow(1), NONE);
    }

    private static void slow() {
        TrailFinder x = new TrailFinder();
        check.due("slow: empty", x.slow(0), NONE);
        x.open();
        x.open();
        x.add(0, 0, 0, 0, 0);
        x.add(0, 1, 0, 5, 5);
        x.add(0, 2, 0, 25, 20);
        x.add(0, 1, 0, 10, -1);
        x.add(0, 3, 0, 40, 50);
        x.add(0, 11, 0, 50, 60);
        x.add(1, 0, 0, 0, 0);
        x.add(1, 1, 0, 16, 0);
        x.add(1, 3, 0, -1, 0);
        // Waits: b behind a 5 + 16, c behind b 20, b behind c -10, l behind d 0; d behind b none.
        int[] want = {12, 2 * 12 + 1, 11 * 12 + 3, 12 + 2, NONE};
        for (int i = 0; i < want.length; i++) check.due("slow(" + i + ")", x.slow(i), want[i]);
        check.due("slow: far behind", x.slow(MOST), NONE);
        check.due("slow(-1)", x.slow(-1), BAD);
        check.due("slow: least", x.slow(LEAST), BAD);
        x.drop(1, true);
        check.due("slow: one dropped, first", x.slow(0), 2 * 12 + 1);
        check.due("slow: one dropped, second", x.slow(1), 12);
        x.drop(0, true);
        check.due("slow: all dropped", x.slow(0), NONE);
    }

    private static void slowAlike() {
        TrailFinder x = new TrailFinder();
        x.open();
        for (int name : new int[] {5, 4, 3, 4, 5, 5}) x.add(0, name, 0, 7, 7);
        // All waits are 0: by 12 a + b.
        int[] want = {3 * 12 + 4, 4 * 12 + 3, 4 * 12 + 5, 5 * 12 + 4, 5 * 12 + 5, NONE};
        for (int i = 0; i < want.length; i++) check.due("slow alike " + i, x.slow(i), want[i]);
        x.open();
        x.add(1, 0, 0, 0, 9);
        x.add(1, 0, 0, 8, 0);
        check.due("slow: a name behind itself, below 0", x.slow(5), 0);
        x.drop(0, true);
        check.due("slow: the first one dropped", x.slow(0), 0);
        check.due("slow: and no other", x.slow(1), NONE);
        check.due("slow: asked again", x.slow(0), 0);
    }

    private static void passes() {
        TrailFinder x = new TrailFinder();
        check.due("passes: empty", x.passes(0, 0), 0);
        x.open();
        x.open();
        for (int hand : new int[] {1, 2, 2, 1, 2, 7}) x.add(0, 0, hand, -1, -1);
        for (int hand : new int[] {7, 1, 2}) x.add(1, 0, hand, -1, -1);
        check.due("passes: 1 to 2", x.passes(1, 2), 3);
        check.due("passes: 2 to 1", x.passes(2, 1), 1);
        check.due("passes: 2 to 2", x.passes(2, 2), 1);
        check.due("passes: 2 to 7", x.passes(2, 7), 1);
        check.due("passes: not from case to case", x.passes(7, 7), 0);
        check.due("passes: 7 to 1", x.passes(7, 1), 1);
        check.due("passes: 0 to 0", x.passes(0, 0), 0);
        x.drop(0, true);
        check.due("passes: one dropped", x.passes(1, 2), 1);
        int[][] bad = {{-1, 0}, {8, 0}, {0, -1}, {0, 8}, {MOST, 0}, {LEAST, 0}, {0, MOST}, {0, LEAST}};
        for (int[] b : bad) check.due("passes(" + b[0] + ", " + b[1] + ")", x.passes(b[0], b[1]), BAD);
    }

    private static void counts(TrailFinder x, String when, int... want) {
        for (int what = 0; what < 6; what++) check.due("count(" + what + ") " + when, x.count(what), want[what]);
    }

    private static void count() {
        TrailFinder x = new TrailFinder();
        counts(x, "new", 0, 0, 0, 0, 0, 0);
        x.open();
        counts(x, "with an empty trail", 1, 1, 0, 0, 0, 1);
        x.open();
        counts(x, "with two empty trails", 2, 2, 0, 0, 0, 1);
        x.add(0, 0, 1, 5, 6);
        x.add(0, 1, 1, 5, 6);
        x.add(1, 0, 2, 7, 8);
        x.add(1, 1, 3, -1, 8);
        counts(x, "with two alike by names", 2, 2, 4, 2, 0, 1);
        x.open();
        x.add(2, 1, 0, 0, 0);
        x.add(2, 0, 0, 0, 0);
        counts(x, "with another order", 3, 3, 6, 2, 0, 2);
        x.open();
        x.add(3, 0, 0, 0, 0);
        counts(x, "with a shorter one", 4, 4, 7, 2, 0, 3);
        x.open();
        x.add(4, 11, 0, 0, 0);
        x.deed(0);
        x.deed(-1);
        counts(x, "with another name", 5, 5, 8, 3, 2, 4);
        x.drop(4, true);
        x.drop(0, true);
        counts(x, "with two dropped", 5, 3, 5, 2, 2, 3);
        x.open();
        x.add(5, 0, 7, 1, 1);
        counts(x, "with one more that is alike", 6, 4, 6, 2, 2, 3);
        for (int c = 0; c < 6; c++) x.drop(c, true);
        counts(x, "with all dropped", 6, 0, 0, 0, 2, 0);
        for (int what : new int[] {-1, 6, 7, LEAST, MOST}) check.due("count(" + what + ")", x.count(what), BAD);
    }
}
