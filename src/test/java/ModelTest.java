/** Long runs of calls, drawn by a fixed row of numbers, held against the model of the document. */
final class ModelTest {
    private static final int RUNS = 400;
    private static final int CALLS = 512;
    /** The model walks through what is left of a net; more states than these take it too long. */
    private static final long MOST_STATES = 1500;
    private static final int[] ODD = {
        -2147483648, -1000, -9, -4, -3, -2, -1, 0, 1, 2, 3, 4, 5, 6, 7, 8, 11, 12, 13, 23, 24, 25, 59, 60, 61, 62,
        63, 64, 100, 143, 144, 199, 200, 201, 1000000, 1000001, 2147483647};

    private static final Check check = new Check("ModelTest");
    private static final int[] foundKinds = new int[6];
    private static final int[] full = new int[3];
    private static long seed;

    private final TrailFinder finder = new TrailFinder();
    private final Model model = new Model();
    private final int run;
    private final int names;
    private int calls;
    private int laid;

    private ModelTest(int run) {
        this.run = run;
        seed = run * 7919L + 17;
        names = 1 + below(run % 3 == 0 ? 12 : 5);
    }

    public static void main(String[] args) {
        for (int run = 0; run < RUNS; run++) new ModelTest(run).go();
        for (int kind = 0; kind < foundKinds.length; kind++) {
            check.due("pieces of kind " + kind + " were found", foundKinds[kind] > 20);
        }
        for (int i = 0; i < full.length; i++) check.due("some were full, " + i, full[i] > 0);
        check.end();
    }

    private static int below(int bound) {
        seed = seed * 6364136223846793005L + 1442695040888963407L;
        return (int) ((seed >>> 33) % bound);
    }

    private static int odd(int usual) {
        return below(30) == 0 ? ODD[below(ODD.length)] : usual;
    }

    private void due(String call, int got, int want) {
        calls++;
        check.due("run " + run + ", call " + calls + ": " + call, got, want);
    }

    private void go() {
        if (run % 4 != 3) logOfNet();
        while (calls < CALLS) {
            int group = below(10);
            if (group < 3) callLog();
            else if (group < 6) callPieces();
            else if (group < 8) callLaying();
            else callTimes();
        }
        check.due("run " + run + ": state", same());
    }

    // ---- logs that a net has made, so that there is something to find

    private void logOfNet() {
        Model.Net net = randomNet(4, new int[] {0});
        int trails = 1 + below(10);
        for (int i = 0; i < trails; i++) {
            due("open()", finder.open(), model.open());
            StringBuilder row = new StringBuilder();
            for (int tries = 0; tries < 9; tries++) {
                row = randomRun(net, 0);
                if (row.length() <= 6) break;
            }
            for (int j = 0; j < row.length() && j < 6; j++) callAdd(i, row.charAt(j) - 'a');
        }
        callFind();
    }

    private Model.Net randomNet(int depth, int[] used) {
        int kind = depth == 0 || below(5) == 0 ? 0 : 2 + below(4);
        if (kind == 0) return below(9) == 0 ? Model.Net.silent() : Model.Net.deed(used[0]++ % names);
        Model.Net[] parts = new Model.Net[2 + below(2)];
        for (int i = 0; i < parts.length; i++) parts[i] = randomNet(depth - 1, used);
        return Model.Net.of(kind, parts);
    }

    private StringBuilder randomRun(Model.Net net, int depth) {
        StringBuilder row = new StringBuilder();
        if (net.kind == 0) row.append((char) ('a' + net.name));
        if (net.kind == 2) for (Model.Net part : net.parts) row.append(randomRun(part, depth + 1));
        if (net.kind == 3) row = randomRun(net.parts.get(below(net.parts.size())), depth + 1);
        if (net.kind == 4) for (Model.Net part : net.parts) row = mixed(row, randomRun(part, depth + 1));
        if (net.kind != 5) return row;
        row = randomRun(net.parts.get(0), depth + 1);
        for (int rounds = 0; rounds < 4 && below(2) == 0; rounds++) {
            row.append(randomRun(net.parts.get(1 + below(net.parts.size() - 1)), depth + 1));
            row.append(randomRun(net.parts.get(0), depth + 1));
        }
        return row;
    }

    private static StringBuilder mixed(StringBuilder a, StringBuilder b) {
        StringBuilder row = new StringBuilder();
        int i = 0;
        int j = 0;
        while (i < a.length() || j < b.length()) {
            boolean first = j == b.length() || i < a.length() && below(2) == 0;
            row.append(first ? a.charAt(i++) : b.charAt(j++));
        }
        return row;
    }

    // ---- the calls

    private int aCase() {
        return odd(below(Math.max(1, model.count(0))));
    }

    private int aName() {
        return odd(below(names));
    }

    private int aPiece() {
        int made = Math.max(1, model.count(4));
        return odd(below(3) == 0 ? made - 1 - below(Math.min(made, 4)) : below(made));
    }

    private int aTime() {
        return below(4) == 0 ? -1 : odd(below(2) == 0 ? below(40) : below(1000001));
    }

    private void callLog() {
        int c = aCase();
        int a = aName();
        int b = aName();
        int what = odd(below(3));
        switch (below(9)) {
            case 0:
                if (below(3) == 0) due("open()", finder.open(), model.open());
                break;
            case 1:
                due("cut(" + c + ")", finder.cut(c), model.cut(c));
                break;
            case 2:
                boolean is = below(3) == 0;
                due("drop(" + c + ", " + is + ")", finder.drop(c, is), model.drop(c, is));
                break;
            case 3:
                int i = odd(below(7) - 1);
                what = odd(below(i == -1 ? 2 : 4));
                due("told(" + c + ", " + i + ", " + what + ")", finder.told(c, i, what), model.told(c, i, what));
                break;
            case 4:
                due("follows(" + a + ", " + b + ")", finder.follows(a, b), model.follows(a, b));
                break;
            case 5:
                due("stands(" + a + ", " + what + ")", finder.stands(a, what), model.stands(a, what));
                break;
            default:
                callAdd(c, a);
        }
    }

    private void callAdd(int c, int name) {
        int hand = odd(below(8));
        int begin = aTime();
        int end = aTime();
        int got = finder.add(c, name, hand, begin, end);
        if (got == TrailFinder.FULL) full[0]++;
        due("add(" + c + ", " + name + ", " + hand + ", " + begin + ", " + end + ")", got,
            model.add(c, name, hand, begin, end));
    }

    private void callPieces() {
        int p = aPiece();
        int q = aPiece();
        switch (below(9)) {
            case 0:
                int name = odd(below(names + 1) - 1);
                due("deed(" + name + ")", finder.deed(name), model.deed(name));
                break;
            case 1:
            case 2:
                int kind = odd(2 + below(4));
                due("join(" + kind + ", " + p + ", " + q + ")", finder.join(kind, p, q), model.join(kind, p, q));
                break;
            case 3:
                int more = finder.more(p, q);
                if (more == TrailFinder.FULL) full[1]++;
                due("more(" + p + ", " + q + ")", more, model.more(p, q));
                break;
            case 4:
            case 5:
                int what = odd(below(9));
                due("piece(" + p + ", " + what + ")", finder.piece(p, what), model.piece(p, what));
                break;
            case 6:
                if (below(3) > 0) break;
                int plain = finder.plain(p);
                if (plain == TrailFinder.FULL) full[2]++;
                due("plain(" + p + ")", plain, model.plain(p));
                break;
            case 7:
                due("like(" + p + ", " + q + ")", finder.like(p, q), model.like(p, q));
                break;
            default:
                if (below(8) == 0) callFind();
        }
    }

    private void callFind() {
        int before = model.count(4);
        int found = model.find();
        due("find()", finder.find(), found);
        for (int p = before; p < model.count(4); p++) foundKinds[model.pieces.get(p).kind]++;
        if (found >= 0) callLayingOn(found);
    }

    private void callLaying() {
        callLayingOn(aPiece());
    }

    private void callLayingOn(int p) {
        if (p >= 0 && p < model.count(4) && states(model.pieces.get(p)) > MOST_STATES) return;
        int c = aCase();
        int what = odd(below(4));
        switch (below(4)) {
            case 0:
                due("price(" + c + ", " + p + ")", finder.price(c, p), model.price(c, p));
                break;
            case 1:
                due("both(" + c + ", " + p + ")", finder.both(c, p), model.both(c, p));
                break;
            case 2:
                due("shortest(" + p + ")", finder.shortest(p), model.shortest(p));
                break;
            default:
                // The model lays a trail anew for each number that it tells.
                laid++;
                if (laid < 10) due("fit(" + p + ", " + what + ")", finder.fit(p, what), model.fit(p, what));
        }
    }

    private static long states(Model.Net net) {
        if (net.kind < 2) return 2;
        long states = net.kind == 4 ? 1 : 0;
        for (Model.Net part : net.parts) {
            long own = states(part);
            states = Math.min(MOST_STATES * 9, net.kind == 4 ? states * own : states + own);
        }
        return states;
    }

    private void callTimes() {
        int a = aName();
        int b = aName();
        int h = odd(below(8));
        int what = odd(below(4));
        switch (below(5)) {
            case 0:
                due("work(" + a + ", " + what + ")", finder.work(a, what), model.work(a, what));
                break;
            case 1:
                due("lag(" + a + ", " + b + ", " + what + ")", finder.lag(a, b, what), model.lag(a, b, what));
                break;
            case 2:
                int i = odd(below(12));
                due("slow(" + i + ")", finder.slow(i), model.slow(i));
                break;
            case 3:
                int g = odd(below(8));
                due("passes(" + h + ", " + g + ")", finder.passes(h, g), model.passes(h, g));
                break;
            default:
                what = odd(below(6));
                due("count(" + what + ")", finder.count(what), model.count(what));
        }
    }

    /** Beyond the 512 calls that count, but of calls that change nothing. */
    private boolean same() {
        boolean same = true;
        for (int c = 0; c < 24; c++) {
            for (int i = -1; i < 6; i++) {
                for (int what = 0; what < 4; what++) same &= finder.told(c, i, what) == model.told(c, i, what);
            }
        }
        for (int p = 0; p < 200; p++) {
            for (int what = 0; what < 63; what++) same &= finder.piece(p, what) == model.piece(p, what);
        }
        return same;
    }
}
