/** Promises 1 to 8: a new object, open, add, cut, drop, told, follows, stands. */
final class LogTest {
    private static final int BAD = TrailFinder.BAD, FULL = TrailFinder.FULL;
    private static final int LEAST = Integer.MIN_VALUE, MOST = Integer.MAX_VALUE;
    private static final Check check = new Check("LogTest");

    public static void main(String[] args) {
        aNewObject();
        open();
        add();
        addBad();
        cut();
        drop();
        told();
        follows();
        stands();
        twoObjects();
        check.end();
    }

    /** A case with a deed for each letter, a being name 0; hands and times 0. */
    private static int trail(TrailFinder x, String letters) {
        int c = x.open();
        for (int i = 0; i < letters.length(); i++) x.add(c, letters.charAt(i) - 'a', 0, 0, 0);
        return c;
    }

    private static void aNewObject() {
        TrailFinder x = new TrailFinder();
        for (int what = 0; what <= 5; what++) check.due("new: count(" + what + ")", x.count(what), 0);
        check.due("new: told(0, -1, 0)", x.told(0, -1, 0), -9);
        check.due("new: piece(0, 0)", x.piece(0, 0), BAD);
        check.due("new: follows(0, 0)", x.follows(0, 0), 0);
        check.due("new: stands(0, 2)", x.stands(0, 2), 0);
        check.due("new: work(0, 2)", x.work(0, 2), TrailFinder.NONE);
        check.due("new: slow(0)", x.slow(0), TrailFinder.NONE);
        check.due("new: passes(0, 0)", x.passes(0, 0), 0);
        check.due("new: open()", x.open(), 0);
        check.due("new: deed(0)", x.deed(0), 0);
    }

    private static void open() {
        TrailFinder x = new TrailFinder();
        for (int c = 0; c < 24; c++) {
            check.due("open: told ahead, " + c, x.told(c, -1, 0), -9);
            check.due("open " + c, x.open(), c);
            check.due("open: empty " + c, x.told(c, -1, 0), 0);
            check.due("open: not dropped " + c, x.told(c, -1, 1), 0);
        }
        check.due("open: full", x.open(), FULL);
        check.due("open: count(0)", x.count(0), 24);
        check.due("open: drop(23, true)", x.drop(23, true), 0);
        check.due("open: full with one dropped", x.open(), FULL);
        check.due("open: count(0) still", x.count(0), 24);
        check.due("open: told(24, -1, 0)", x.told(24, -1, 0), -9);
    }

    private static void add() {
        TrailFinder x = new TrailFinder();
        x.open();
        x.open();
        for (int i = 0; i < 6; i++) {
            check.due("add: deed " + i, x.add(1, i * 2, i, 10 * i, 10 * i + 5), i + 1);
        }
        check.due("add: full", x.add(1, 0, 0, 0, 0), FULL);
        check.due("add: still 6", x.told(1, -1, 0), 6);
        check.due("add: other case is empty", x.told(0, -1, 0), 0);
        for (int i = 0; i < 6; i++) {
            check.due("add: name at " + i, x.told(1, i, 0), i * 2);
            check.due("add: hand at " + i, x.told(1, i, 1), i);
            check.due("add: begin at " + i, x.told(1, i, 2), 10 * i);
            check.due("add: end at " + i, x.told(1, i, 3), 10 * i + 5);
        }
        check.due("add: greatest numbers", x.add(0, 11, 7, 1000000, 1000000), 1);
        check.due("add: least numbers", x.add(0, 0, 0, 0, 0), 2);
        check.due("add: missing", x.add(0, 5, 5, -1, -1), 3);
        check.due("add: end ahead of begin", x.add(0, 5, 5, 9, 2), 4);
        check.due("add: greatest name", x.told(0, 0, 0), 11);
        check.due("add: greatest hand", x.told(0, 0, 1), 7);
        check.due("add: greatest begin", x.told(0, 0, 2), 1000000);
        check.due("add: greatest end", x.told(0, 0, 3), 1000000);
        check.due("add: least begin", x.told(0, 1, 2), 0);
        check.due("add: missing begin", x.told(0, 2, 2), -1);
        check.due("add: missing end", x.told(0, 2, 3), -1);
        check.due("add: earlier end", x.told(0, 3, 3), 2);
    }

    private static void addBad() {
        TrailFinder x = new TrailFinder();
        check.due("add: no case yet", x.add(0, 0, 0, 0, 0), BAD);
        trail(x, "abcdef");
        x.open();
        int[][] bad = {
            {-1, 0, 0, 0, 0}, {2, 0, 0, 0, 0}, {24, 0, 0, 0, 0}, {LEAST, 0, 0, 0, 0}, {MOST, 0, 0, 0, 0},
            {1, -1, 0, 0, 0}, {1, 12, 0, 0, 0}, {1, MOST, 0, 0, 0}, {1, LEAST, 0, 0, 0},
            {1, 0, -1, 0, 0}, {1, 0, 8, 0, 0}, {1, 0, MOST, 0, 0}, {1, 0, LEAST, 0, 0},
            {1, 0, 0, -2, 0}, {1, 0, 0, 1000001, 0}, {1, 0, 0, MOST, 0}, {1, 0, 0, LEAST, 0},
            {1, 0, 0, 0, -2}, {1, 0, 0, 0, 1000001}, {1, 0, 0, 0, MOST}, {1, 0, 0, 0, LEAST},
            {0, 12, 0, 0, 0}, {0, 0, 8, 0, 0}, {0, 0, 0, -2, 0}, {0, 0, 0, 0, -2}};
        for (int[] b : bad) {
            String call = "add(" + b[0] + ", " + b[1] + ", " + b[2] + ", " + b[3] + ", " + b[4] + ")";
            check.due(call, x.add(b[0], b[1], b[2], b[3], b[4]), BAD);
        }
        check.due("add: nothing came", x.count(2), 6);
        x.drop(0, true);
        x.drop(1, true);
        check.due("add: dropped", x.add(1, 0, 0, 0, 0), BAD);
        check.due("add: dropped, and with 6", x.add(0, 0, 0, 0, 0), BAD);
        check.due("add: nothing came to the dropped", x.told(1, -1, 0), 0);
        x.drop(1, false);
        check.due("add: not dropped any more", x.add(1, 0, 0, 0, 0), 1);
    }

    private static void cut() {
        TrailFinder x = new TrailFinder();
        check.due("cut: no case", x.cut(0), BAD);
        trail(x, "abc");
        trail(x, "d");
        check.due("cut: 2 are left", x.cut(0), 2);
        check.due("cut: the latest has gone", x.told(0, 2, 0), -9);
        check.due("cut: the one ahead stays", x.told(0, 1, 0), 1);
        check.due("cut: add behind", x.add(0, 7, 3, 4, 5), 3);
        check.due("cut: the new one", x.told(0, 2, 0), 7);
        check.due("cut: 2 again", x.cut(0), 2);
        check.due("cut: 1", x.cut(0), 1);
        check.due("cut: 0", x.cut(0), 0);
        check.due("cut: an empty one", x.cut(0), BAD);
        check.due("cut: still empty", x.told(0, -1, 0), 0);
        check.due("cut: the case stays", x.count(0), 2);
        x.drop(1, true);
        check.due("cut: a dropped one", x.cut(1), BAD);
        check.due("cut: nothing of it has gone", x.told(1, -1, 0), 1);
        for (int c : new int[] {-1, 2, 24, LEAST, MOST}) check.due("cut(" + c + ")", x.cut(c), BAD);
        x.drop(1, false);
        check.due("cut: not dropped any more", x.cut(1), 0);
    }

    private static void drop() {
        TrailFinder x = new TrailFinder();
        check.due("drop: no case", x.drop(0, true), BAD);
        trail(x, "ab");
        trail(x, "b");
        check.due("drop: it was not", x.drop(0, true), 0);
        check.due("drop: it was", x.drop(0, true), 1);
        check.due("drop: told", x.told(0, -1, 1), 1);
        check.due("drop: the other is not", x.told(1, -1, 1), 0);
        check.due("drop: the log", x.count(1), 1);
        check.due("drop: the cases", x.count(0), 2);
        check.due("drop: its deeds do not count", x.stands(1, 2), 1);
        check.due("drop: it was, now not", x.drop(0, false), 1);
        check.due("drop: it was not, nor is", x.drop(0, false), 0);
        check.due("drop: the log again", x.count(1), 2);
        check.due("drop: its deeds count again", x.stands(1, 2), 2);
        for (int c : new int[] {-1, 2, 24, LEAST, MOST}) {
            check.due("drop(" + c + ", true)", x.drop(c, true), BAD);
            check.due("drop(" + c + ", false)", x.drop(c, false), BAD);
        }
    }

    private static void told() {
        TrailFinder x = new TrailFinder();
        x.open();
        x.add(0, 3, 4, 5, -1);
        x.add(0, 9, 2, -1, 8);
        int[][] want = {{3, 4, 5, -1}, {9, 2, -1, 8}};
        for (int round = 0; round < 2; round++) {
            for (int i = 0; i < 2; i++) {
                for (int what = 0; what < 4; what++) {
                    check.due("told(0, " + i + ", " + what + ")", x.told(0, i, what), want[i][what]);
                }
            }
            check.due("told: how many", x.told(0, -1, 0), 2);
            check.due("told: dropped", x.told(0, -1, 1), round);
            x.drop(0, true);
        }
        int[][] bad = {{-1, 0, 0}, {1, 0, 0}, {1, -1, 0}, {MOST, 0, 0}, {LEAST, -1, 0}, {24, -1, 1},
            {0, 2, 0}, {0, 6, 0}, {0, -2, 0}, {0, -2, 1}, {0, MOST, 0}, {0, LEAST, 0},
            {0, 0, 4}, {0, 0, -1}, {0, 1, MOST}, {0, 1, LEAST}, {0, -1, 2}, {0, -1, 3}, {0, -1, -1}, {0, -1, MOST}};
        for (int[] b : bad) {
            check.due("told(" + b[0] + ", " + b[1] + ", " + b[2] + ")", x.told(b[0], b[1], b[2]), -9);
        }
    }

    private static void follows() {
        TrailFinder x = new TrailFinder();
        trail(x, "abab");
        trail(x, "bba");
        trail(x, "");
        trail(x, "l");
        check.due("follows: b behind a", x.follows(1, 0), 2);
        check.due("follows: a behind b", x.follows(0, 1), 2);
        check.due("follows: b behind b", x.follows(1, 1), 1);
        check.due("follows: a behind a", x.follows(0, 0), 0);
        check.due("follows: not from case to case", x.follows(11, 0), 0);
        check.due("follows: not with a gap", x.follows(2, 0), 0);
        x.drop(0, true);
        check.due("follows: b behind a, one dropped", x.follows(1, 0), 0);
        check.due("follows: a behind b, one dropped", x.follows(0, 1), 1);
        x.cut(1);
        check.due("follows: a behind b, cut", x.follows(0, 1), 0);
        int[][] bad = {{-1, 0}, {0, -1}, {12, 0}, {0, 12}, {MOST, 0}, {0, LEAST}};
        for (int[] b : bad) check.due("follows(" + b[0] + ", " + b[1] + ")", x.follows(b[0], b[1]), BAD);
        check.due("follows: greatest", x.follows(11, 11), 0);
    }

    private static void stands() {
        TrailFinder x = new TrailFinder();
        trail(x, "aba");
        trail(x, "ab");
        trail(x, "b");
        trail(x, "");
        int[][] want = {{2, 1, 3}, {1, 2, 3}, {0, 0, 0}};
        for (int name = 0; name < 3; name++) {
            for (int what = 0; what < 3; what++) {
                check.due("stands(" + name + ", " + what + ")", x.stands(name, what), want[name][what]);
            }
        }
        x.drop(1, true);
        check.due("stands: begins, one dropped", x.stands(0, 0), 1);
        check.due("stands: ends, one dropped", x.stands(1, 1), 1);
        check.due("stands: all, one dropped", x.stands(1, 2), 2);
        check.due("stands: greatest name", x.stands(11, 2), 0);
        int[][] bad = {{-1, 0}, {12, 0}, {0, -1}, {0, 3}, {MOST, 0}, {LEAST, 1}, {0, MOST}, {0, LEAST}};
        for (int[] b : bad) check.due("stands(" + b[0] + ", " + b[1] + ")", x.stands(b[0], b[1]), BAD);
    }

    private static void twoObjects() {
        TrailFinder x = new TrailFinder();
        TrailFinder y = new TrailFinder();
        trail(x, "ab");
        x.deed(1);
        check.due("two objects: cases", y.count(0), 0);
        check.due("two objects: pieces", y.count(4), 0);
        check.due("two objects: find", y.find(), 0);
        check.due("two objects: silent", y.piece(0, 0), 1);
        check.due("two objects: the first one's", x.piece(0, 0), 0);
    }
}
