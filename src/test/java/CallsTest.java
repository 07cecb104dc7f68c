import com.sun.management.ThreadMXBean;
import java.lang.management.ManagementFactory;
import java.util.function.ToIntFunction;

/**
 * "An object is used for at most 512 calls after it has been made": the dearest calls, made until
 * there are 512, all answer alike, the 512th too, and what they make stays far below the room.
 */
final class CallsTest {
    private static final int CALLS = 512;
    /** 600,000 objects of 16 bytes, the least that one takes here; so many bytes are fewer fields than 7.3 million. */
    private static final long ROOM = 600000L * 16;
    private static final Check check = new Check("CallsTest");
    private static long most;

    public static void main(String[] args) {
        makers();
        finders();
        layers();
        askers();
        refused();
        System.out.println("CallsTest: the dearest run makes " + most + " bytes");
        check.end();
    }

    /** The calls ahead are as many as told; then the dear one, up to 512, answers the same each time. */
    private static void run(String name, int ahead, Edges.Calls calls, int want, ToIntFunction<TrailFinder> dear) {
        long before = allocated();
        TrailFinder x = new TrailFinder();
        calls.on(x);
        int unlike = 0;
        for (int call = ahead + 1; call < CALLS; call++) {
            if (dear.applyAsInt(x) != want) unlike++;
        }
        check.due(name + ": unlike ones up to the 511th", unlike, 0);
        check.due(name + ": the 512th", dear.applyAsInt(x), want);
        long made = allocated() - before;
        check.due(name + ": the room", made <= ROOM);
        most = Math.max(most, made);
    }

    /** As run, the first answer being told by an object of its own. */
    private static void alike(String name, int ahead, Edges.Calls calls, ToIntFunction<TrailFinder> dear) {
        TrailFinder x = new TrailFinder();
        calls.on(x);
        run(name, ahead, calls, dear.applyAsInt(x), dear);
    }

    /** Bytes that this thread has made; 0 where the machine does not tell. */
    private static long allocated() {
        ThreadMXBean bean = (ThreadMXBean) ManagementFactory.getThreadMXBean();
        return bean.isThreadAllocatedMemorySupported() ? bean.getThreadAllocatedBytes(Thread.currentThread().getId()) : 0;
    }

    // ---- what stands ahead: 168 calls, and as many as there are pieces

    /** 24 trails of six; c is the number of each case. */
    private static void fullLog(TrailFinder x) {
        for (int c = 0; c < 24; c++) {
            x.open();
            for (int i = 0; i < 6; i++) x.add(c, (c + i * (1 + c % 5)) % 12, i, i, i + c);
        }
    }

    /** 200 pieces; 57, 58 of 58 and 59 parts. */
    private static void wideOf(TrailFinder x, int kind) {
        x.deed(0);
        x.join(kind, 0, 0);
        for (int p = 1; p < 58; p++) x.more(p, 0);
        for (int p = 59; p < 200; p++) x.deed(p % 12);
    }

    /** 200 pieces; 29 is of 30 levels. */
    private static void deepOf(TrailFinder x) {
        x.deed(0);
        for (int p = 1; p < 30; p++) x.join(2 + p % 4, p - 1, 0);
        for (int p = 30; p < 200; p++) x.deed(p % 12);
    }

    // ---- the dear calls

    private static void makers() {
        for (int kind = 2; kind < 6; kind++) {
            int of = kind;
            run("plain of 59 parts", 200, x -> wideOf(x, of), Edges.FULL, x -> x.plain(58));
            run("more, 60 parts", 200, x -> wideOf(x, of), Edges.FULL, x -> x.more(58, 0));
            run("more, 59 parts", 200, x -> wideOf(x, of), Edges.FULL, x -> x.more(57, 0));
        }
        run("plain of 30 levels", 200, CallsTest::deepOf, Edges.FULL, x -> x.plain(29));
        run("join", 200, CallsTest::deepOf, Edges.FULL, x -> x.join(2, 29, 29));
        run("deed", 200, CallsTest::deepOf, Edges.FULL, x -> x.deed(0));
    }

    private static void finders() {
        run("find, of 24 trails", 368, x -> {
            fullLog(x);
            wideOf(x, 2);
        }, Edges.FULL, TrailFinder::find);
        // The log of SIZE 61: 5 cases and 28 deeds.
        run("find, of size 61", 33, x -> {
            for (String trail : new String[] {"aabbcc", "cddeef", "ffgghh", "hiijjk", "kkll"}) Edges.trail(x, trail);
        }, Edges.FULL, TrailFinder::find);
        // The deepest: 7 cases and 27 deeds.
        run("find, eleven cuts deep", 234, x -> {
            for (String trail : new String[] {"a", "bc", "bde", "bdfg", "bdfhi", "bdfhjk", "bdfhjl"}) Edges.trail(x, trail);
            wideOf(x, 2);
        }, Edges.FULL, TrailFinder::find);
    }

    private static void layers() {
        for (int kind = 2; kind < 6; kind++) {
            int of = kind;
            Edges.Calls wide = x -> {
                fullLog(x);
                wideOf(x, of);
            };
            alike("fit", 368, wide, x -> x.fit(58, 3));
            alike("shortest", 368, wide, x -> x.shortest(58));
            alike("price", 368, wide, x -> x.price(23, 58));
            alike("both", 368, wide, x -> x.both(23, 58));
        }
        Edges.Calls deep = x -> {
            fullLog(x);
            deepOf(x);
        };
        alike("fit, deep", 368, deep, x -> x.fit(29, 3));
        alike("both, deep", 368, deep, x -> x.both(0, 29));
        run("like", 200, CallsTest::deepOf, 1, x -> x.like(29, 29));
    }

    private static void askers() {
        for (int k = 0; k < 6; k++) {
            int what = k;
            run("count " + k, 168, CallsTest::fullLog, new int[] {24, 24, 144, 12, 0, 24}[k], x -> x.count(what));
        }
        alike("slow", 168, CallsTest::fullLog, x -> x.slow(0));
        alike("slow, none", 168, CallsTest::fullLog, x -> x.slow(143));
        alike("work", 168, CallsTest::fullLog, x -> x.work(0, 0));
        alike("lag", 168, CallsTest::fullLog, x -> x.lag(1, 0, 0));
        alike("follows", 168, CallsTest::fullLog, x -> x.follows(1, 0));
        alike("stands", 168, CallsTest::fullLog, x -> x.stands(0, 2));
        alike("passes", 168, CallsTest::fullLog, x -> x.passes(0, 1));
    }

    private static void refused() {
        run("open", 168, CallsTest::fullLog, Edges.FULL, TrailFinder::open);
        run("add", 168, CallsTest::fullLog, Edges.FULL, x -> x.add(23, 0, 0, 0, 0));
        run("add, bad", 168, CallsTest::fullLog, Edges.BAD, x -> x.add(24, 0, 0, 0, 0));
        run("cut", 0, x -> { }, Edges.BAD, x -> x.cut(0));
        run("told", 168, CallsTest::fullLog, Edges.NOT_TOLD, x -> x.told(0, 6, 0));
        run("piece", 200, CallsTest::deepOf, Edges.BAD, x -> x.piece(200, 0));
    }
}
