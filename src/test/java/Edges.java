import java.util.ArrayList;
import java.util.List;
import java.util.function.IntUnaryOperator;
import java.util.function.ToIntFunction;

/** What the tests of the document's boundary cases have in common. */
final class Edges {
    static final int BAD = TrailFinder.BAD, FULL = TrailFinder.FULL, NONE = TrailFinder.NONE;
    /** What told answers to a bad call. */
    static final int NOT_TOLD = -9;
    static final int LEAST = Integer.MIN_VALUE, MOST = Integer.MAX_VALUE;

    private Edges() { }

    /** Calls that are made on an object. */
    interface Calls {
        void on(TrailFinder x);
    }

    /** A case more, with a deed for each letter, a being name 0; hands and times are 0. */
    static int trail(TrailFinder x, String letters) {
        int c = x.open();
        for (int i = 0; i < letters.length(); i++) x.add(c, letters.charAt(i) - 'a', 0, 0, 0);
        return c;
    }

    static TrailFinder log(String... trails) {
        TrailFinder x = new TrailFinder();
        for (String trail : trails) trail(x, trail);
        return x;
    }

    /** 24 cases, each with the same trail. */
    static TrailFinder logOf24(String letters) {
        TrailFinder x = new TrailFinder();
        for (int c = 0; c < 24; c++) trail(x, letters);
        return x;
    }

    static void dropAll(TrailFinder x) {
        for (int c = 0; c < x.count(0); c++) x.drop(c, true);
    }

    /** Pieces of one deed, until there are so many pieces. */
    static void fill(TrailFinder x, int pieces) {
        for (int made = x.count(4); made < pieces; made++) x.deed(0);
    }

    /** A piece of this kind with so many parts, each of them the piece part. */
    static int wide(TrailFinder x, int kind, int part, int parts) {
        int p = x.join(kind, part, part);
        for (int made = 2; made < parts; made++) p = x.more(p, part);
        return p;
    }

    /** Right at both limits the call is not refused; right beyond them, and far beyond, it is. */
    static void within(Check check, String call, int least, int most, int refusal, IntUnaryOperator calls) {
        check.due(call + " at " + least + " is not refused", calls.applyAsInt(least) != refusal);
        check.due(call + " at " + most + " is not refused", calls.applyAsInt(most) != refusal);
        for (int beyond : new int[] {least - 1, most + 1, LEAST, MOST}) {
            check.due(call + " at " + beyond, calls.applyAsInt(beyond), refusal);
        }
    }

    /** All that can be asked of an object after these calls, on objects made anew, 512 calls each at most. */
    static int[] state(Calls calls) {
        List<ToIntFunction<TrailFinder>> reads = READS;
        int[] answers = new int[reads.size() + 2];
        TrailFinder x = null;
        for (int i = 0; i < reads.size(); i++) {
            if (i % 60 == 0) {
                x = new TrailFinder();
                calls.on(x);
            }
            answers[i] = reads.get(i).applyAsInt(x);
        }
        // What comes next, asked last, as it changes the object.
        answers[reads.size()] = x.open();
        answers[reads.size() + 1] = x.deed(0);
        return answers;
    }

    private static final List<ToIntFunction<TrailFinder>> READS = reads();

    private static List<ToIntFunction<TrailFinder>> reads() {
        List<ToIntFunction<TrailFinder>> reads = new ArrayList<>();
        for (int i = 0; i < 200 * 63; i++) {
            int p = i / 63;
            int what = i % 63;
            reads.add(x -> x.piece(p, what));
        }
        for (int i = 0; i < 24 * 28; i++) {
            int c = i / 28;
            int at = i % 28 / 4 - 1;
            int what = i % 4;
            reads.add(x -> x.told(c, at, what));
        }
        for (int i = 0; i < 144; i++) {
            int a = i / 12;
            int b = i % 12;
            reads.add(x -> x.follows(a, b));
            for (int k = 0; k < 4; k++) {
                int what = k;
                reads.add(x -> x.lag(a, b, what));
            }
        }
        readsOfTheLog(reads);
        readsOfLaying(reads);
        return reads;
    }

    private static void readsOfTheLog(List<ToIntFunction<TrailFinder>> reads) {
        for (int i = 0; i < 12 * 4; i++) {
            int name = i / 4;
            int what = i % 4;
            reads.add(x -> x.work(name, what));
            if (what < 3) reads.add(x -> x.stands(name, what));
        }
        for (int i = 0; i < 64; i++) {
            int h = i / 8;
            int g = i % 8;
            reads.add(x -> x.passes(h, g));
        }
        for (int i = 0; i < 20; i++) {
            int at = i;
            reads.add(x -> x.slow(at));
            if (i < 6) reads.add(x -> x.count(at));
        }
    }

    private static void readsOfLaying(List<ToIntFunction<TrailFinder>> reads) {
        for (int i = 0; i < 200; i++) {
            int p = i;
            reads.add(x -> x.shortest(p));
            reads.add(x -> x.fit(p, 1));
            reads.add(x -> x.fit(p, 3));
            reads.add(x -> x.price(p % 24, p));
            reads.add(x -> x.both(p % 24, p));
            reads.add(x -> x.like(p, 199 - p));
        }
    }
}
