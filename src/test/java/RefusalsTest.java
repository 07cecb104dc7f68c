import java.util.Arrays;
import java.util.function.ToIntFunction;

/**
 * "BAD: a number is none that is told, there is no such thing. FULL. Of several the first in this
 * order; nothing changes then." Each refused call is made behind the same calls, and all that can
 * be asked of the object is then as it is without it.
 */
final class RefusalsTest {
    private static final int BAD = Edges.BAD, FULL = Edges.FULL, NONE = Edges.NONE, NOT_TOLD = Edges.NOT_TOLD;
    private static final Check check = new Check("RefusalsTest");

    private final String when;
    private final Edges.Calls calls;
    private final int[] state;

    private RefusalsTest(String when, Edges.Calls calls) {
        this.when = when;
        this.calls = calls;
        this.state = Edges.state(calls);
    }

    public static void main(String[] args) {
        onANewObject(new RefusalsTest("new", x -> { }));
        onSome(new RefusalsTest("some", RefusalsTest::some));
        onFull(new RefusalsTest("full", RefusalsTest::full));
        withOneLeft(new RefusalsTest("one left", RefusalsTest::oneLeft));
        ofGreatSizes(new RefusalsTest("great sizes", RefusalsTest::greatSizes));
        asksChangeNothing(new RefusalsTest("some", RefusalsTest::some));
        asksChangeNothing(new RefusalsTest("full", RefusalsTest::full));
        badAheadOfNone();
        changesAreSeen();
        check.end();
    }

    /** The call is refused so, twice, and nothing has changed. */
    private void refused(String call, int want, ToIntFunction<TrailFinder> refused) {
        TrailFinder x = new TrailFinder();
        calls.on(x);
        check.due(when + ": " + call, refused.applyAsInt(x), want);
        check.due(when + ": " + call + ", again", refused.applyAsInt(x), want);
        check.due(when + ": nothing changes behind " + call, Arrays.equals(state, stateBehind(refused)));
    }

    private int[] stateBehind(ToIntFunction<TrailFinder> call) {
        return Edges.state(x -> {
            calls.on(x);
            call.applyAsInt(x);
        });
    }

    // ---- what stands ahead of the refused calls

    /** Cases: 0 usual, 1 empty, 2 full, 3 dropped, 4 dropped and empty, 5 dropped and full; pieces 0 to 10. */
    private static void some(TrailFinder x) {
        for (String trail : new String[] {"abcb", "", "abcdef", "cab", "", "fedcba"}) Edges.trail(x, trail);
        x.add(0, 11, 7, 1000000, -1);
        x.cut(0);
        x.add(0, 11, 3, 7, 12);
        for (int c = 3; c < 6; c++) x.drop(c, true);
        PiecesTest.make(x, "R(aC(b-)B(cL(la)))");
    }

    /** 24 cases: 1 dropped, 2 dropped and full, 3 empty, all others full; 200 pieces, the last one of SIZE 60. */
    private static void full(TrailFinder x) {
        for (int c = 0; c < 24; c++) {
            String six = "abcdef".substring(c % 6) + "abcde".substring(0, c % 6);
            Edges.trail(x, c == 3 ? "" : c == 1 ? "ab" : six);
        }
        x.drop(1, true);
        x.drop(2, true);
        x.deed(-1);
        x.deed(0);
        int p = Edges.wide(x, 4, 1, 29);
        for (int made = p + 1; made < 199; made++) x.deed(made % 13 - 1);
        x.join(2, p - 1, p);
    }

    /** The log of a net of ROW and two DEEDS; 199 pieces. */
    private static void oneLeft(TrailFinder x) {
        Edges.trail(x, "ab");
        PiecesTest.make(x, "R(ab)");
        Edges.fill(x, 199);
    }

    /** The log of a net of SIZE 61; pieces of SIZE 59 and 60. */
    private static void greatSizes(TrailFinder x) {
        for (String trail : new String[] {"aabbcc", "cddeef", "ffgghh", "hiijjk", "kkll"}) Edges.trail(x, trail);
        x.deed(0);
        Edges.wide(x, 3, 0, 59);
    }

    // ---- the refused calls

    private static void onANewObject(RefusalsTest t) {
        t.refused("add", BAD, x -> x.add(0, 0, 0, 0, 0));
        t.refused("cut", BAD, x -> x.cut(0));
        t.refused("drop", BAD, x -> x.drop(0, true));
        t.refused("told", NOT_TOLD, x -> x.told(0, -1, 0));
        t.refused("deed(12)", BAD, x -> x.deed(12));
        t.refused("deed(-2)", BAD, x -> x.deed(-2));
        t.refused("join", BAD, x -> x.join(2, 0, 0));
        t.refused("more", BAD, x -> x.more(0, 0));
        t.refused("plain", BAD, x -> x.plain(0));
        t.refused("price", BAD, x -> x.price(0, 0));
        t.refused("fit", BAD, x -> x.fit(0, 3));
        t.refused("slow", BAD, x -> x.slow(-1));
    }

    private static void onSome(RefusalsTest t) {
        badAdds(t, 0);
        // BAD ahead of FULL: 6.
        badAdds(t, 2);
        t.refused("add to 6", FULL, x -> x.add(2, 0, 0, 0, 0));
        t.refused("add to 6, at the limits", FULL, x -> x.add(2, 11, 7, 1000000, -1));
        for (int c : new int[] {-1, 3, 4, 5, 6, 23, 24, Edges.LEAST, Edges.MOST}) {
            t.refused("add to " + c, BAD, x -> x.add(c, 0, 0, 0, 0));
            t.refused("cut " + c, BAD, x -> x.cut(c));
        }
        t.refused("cut an empty one", BAD, x -> x.cut(1));
        for (int c : new int[] {-1, 6, 24, Edges.LEAST, Edges.MOST}) {
            t.refused("drop " + c, BAD, x -> x.drop(c, true));
            t.refused("drop not " + c, BAD, x -> x.drop(c, false));
        }
        badPieces(t, 4, 11);
        t.refused("more behind a deed", BAD, x -> x.more(1, 4));
        t.refused("more behind silent", BAD, x -> x.more(2, 4));
    }

    private static void badAdds(RefusalsTest t, int c) {
        for (int n : new int[] {-1, 12, Edges.LEAST, Edges.MOST}) t.refused("add name " + n, BAD, x -> x.add(c, n, 0, 0, 0));
        for (int n : new int[] {-1, 8, Edges.LEAST, Edges.MOST}) t.refused("add hand " + n, BAD, x -> x.add(c, 0, n, 0, 0));
        for (int n : new int[] {-2, 1000001, Edges.LEAST, Edges.MOST}) {
            t.refused("add begin " + n, BAD, x -> x.add(c, 0, 0, n, 0));
            t.refused("add end " + n, BAD, x -> x.add(c, 0, 0, 0, n));
        }
        t.refused("add, all bad", BAD, x -> x.add(c, 12, 8, -2, -2));
    }

    /** Bad calls that would make a piece; parts has PARTS, and none is the first number of no piece. */
    private static void badPieces(RefusalsTest t, int parts, int none) {
        for (int name : new int[] {-2, 12, Edges.LEAST, Edges.MOST}) t.refused("deed " + name, BAD, x -> x.deed(name));
        for (int kind : new int[] {-1, 0, 1, 6, Edges.LEAST, Edges.MOST}) {
            t.refused("join, kind " + kind, BAD, x -> x.join(kind, parts, parts));
        }
        for (int p : new int[] {-1, none, Edges.LEAST, Edges.MOST}) {
            t.refused("join, a " + p, BAD, x -> x.join(2, p, parts));
            t.refused("join, b " + p, BAD, x -> x.join(5, parts, p));
            t.refused("more, p " + p, BAD, x -> x.more(p, parts));
            t.refused("more, a " + p, BAD, x -> x.more(parts, p));
            t.refused("plain " + p, BAD, x -> x.plain(p));
        }
        t.refused("more behind one without parts", BAD, x -> x.more(0, parts));
    }

    private static void onFull(RefusalsTest t) {
        t.refused("open, 24", FULL, TrailFinder::open);
        t.refused("add to a dropped one with 6", BAD, x -> x.add(2, 0, 0, 0, 0));
        badAdds(t, 0);
        badAdds(t, 23);
        t.refused("add to case 24", BAD, x -> x.add(24, 0, 0, 0, 0));
        t.refused("drop case 24", BAD, x -> x.drop(24, true));
        t.refused("cut case 3, an empty one", BAD, x -> x.cut(3));
        // BAD ahead of FULL: 200, and SIZE; 29 is the piece of 29 parts.
        badPieces(t, 29, 200);
        badPieces(t, 199, 200);
        t.refused("more behind a deed, 200", BAD, x -> x.more(1, 0));
        t.refused("deed, 200", FULL, x -> x.deed(0));
        t.refused("silent, 200", FULL, x -> x.deed(-1));
        t.refused("join, 200", FULL, x -> x.join(2, 0, 0));
        t.refused("join, 200 and size", FULL, x -> x.join(2, 199, 199));
        t.refused("more, 200", FULL, x -> x.more(29, 0));
        t.refused("more, 200 and size", FULL, x -> x.more(199, 0));
        t.refused("plain of one, 200", FULL, x -> x.plain(0));
        t.refused("plain of many, 200", FULL, x -> x.plain(199));
        t.refused("find, 200", FULL, TrailFinder::find);
    }

    /** "nothing of it comes": not even the one PIECE that would. */
    private static void withOneLeft(RefusalsTest t) {
        t.refused("plain of three", FULL, x -> x.plain(2));
        t.refused("find three", FULL, TrailFinder::find);
    }

    private static void ofGreatSizes(RefusalsTest t) {
        t.refused("find, size 61", FULL, TrailFinder::find);
        t.refused("join, size 61", FULL, x -> x.join(2, 57, 0));
        t.refused("more, size 61", FULL, x -> x.more(58, 0));
        t.refused("join, size 120", FULL, x -> x.join(2, 57, 58));
        // BAD ahead of FULL: SIZE.
        badPieces(t, 58, 59);
    }

    // ---- what is asked changes nothing, whether it is told or refused

    private static void asksChangeNothing(RefusalsTest t) {
        check.due(t.when + ": nothing changes behind what is asked", Arrays.equals(t.state, t.stateBehind(RefusalsTest::ask)));
    }

    private static int ask(TrailFinder x) {
        int sum = x.told(0, 0, 0) + x.told(0, -1, 2) + x.follows(1, 0) + x.follows(12, 0) + x.stands(0, 2) + x.stands(0, 3);
        for (int what = 0; what <= 6; what++) {
            sum += x.piece(4, what) + x.piece(200, what) + x.work(1, what) + x.lag(1, 0, what) + x.slow(what) + x.count(what);
            sum += x.fit(4, what) + x.fit(200, what) + x.price(what, 4) + x.both(what, 5);
        }
        return sum + x.like(0, 4) + x.like(0, 200) + x.shortest(4) + x.shortest(-1) + x.passes(0, 0) + x.passes(8, 0);
    }

    /** What is BAD is not told NONE, 0 or FULL, though there is nothing there. */
    private static void badAheadOfNone() {
        TrailFinder x = new TrailFinder();
        x.deed(0);
        check.due("slow(-1) of none", x.slow(-1), BAD);
        check.due("piece 1, part 0", x.piece(1, 4), BAD);
        check.due("piece 0, what 63", x.piece(0, 63), BAD);
        check.due("piece 0, part 0", x.piece(0, 4), NONE);
        check.due("fit of no piece, without trails", x.fit(1, 3), BAD);
        check.due("fit without trails", x.fit(0, 3), NONE);
        check.due("work of no name", x.work(12, 2), BAD);
        check.due("work of none", x.work(11, 2), NONE);
        check.due("lag of no name", x.lag(12, 0, 2), BAD);
        check.due("lag of none", x.lag(11, 0, 2), NONE);
        check.due("told of no case", x.told(0, -1, 0), NOT_TOLD);
    }

    /** That the comparison sees what does change. */
    private static void changesAreSeen() {
        RefusalsTest t = new RefusalsTest("some", RefusalsTest::some);
        seen(t, "open", TrailFinder::open);
        seen(t, "add", x -> x.add(1, 0, 0, 0, 0));
        seen(t, "cut", x -> x.cut(0));
        seen(t, "drop", x -> x.drop(1, true));
        seen(t, "drop not", x -> x.drop(5, false));
        seen(t, "deed", x -> x.deed(0));
        seen(t, "join", x -> x.join(2, 0, 0));
        seen(t, "more", x -> x.more(4, 0));
        seen(t, "plain", x -> x.plain(10));
        seen(t, "find", TrailFinder::find);
    }

    private static void seen(RefusalsTest t, String call, ToIntFunction<TrailFinder> changes) {
        check.due("the change by " + call + " is seen", !Arrays.equals(t.state, t.stateBehind(changes)));
    }
}
