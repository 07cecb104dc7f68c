import java.util.ArrayList;
import java.util.Arrays;

/** A finder of trails: cases and their deeds, nets as trees of pieces, trails laid on nets. */
public final class TrailFinder {
    public static final int BAD = -1, FULL = -2, NONE = -3;

    private static final int NOT_TOLD = -9;
    private static final int MISSING = -1;

    private static final int MOST_CASES = 24;
    private static final int MOST_DEEDS = 6;
    private static final int NAMES = 12;
    private static final int HANDS = 8;
    private static final int LATEST = 1000000;
    private static final int MOST_PIECES = 200;
    private static final int MOST_SIZE = 60;
    private static final int MOST_PARTS = MOST_SIZE - 1;

    private static final int NAME = 0, HAND = 1, BEGIN = 2, END = 3, TELLS = 4;
    private static final int DEED = 0, SILENT = 1, ROW = 2, CHOICE = 3, BESIDE = 4, LOOP = 5;

    /** A tree of SIZE 60 is at most 30 deep, as what has parts has two; none found is deeper than 26. */
    private static final int DEEPEST = 40;
    /** A set of the deeds of a trail is a number with a bit for each. */
    private static final int SETS = 1 << MOST_DEEDS;
    /** More than any laying can cost, and small enough that three of it still are an int. */
    private static final int NEVER = 1000000;
    /** A trail by names is an int: four bits for each deed, its name and 1; 0 behind the last. */
    private static final int NAME_BITS = 4, NAME_MASK = 15;
    /** Each stretch of a trail keeps a deed of it, so a cut log has no more rows than the log has deeds. */
    private static final int MOST_ROWS = MOST_CASES * MOST_DEEDS;

    private final Case[] cases = new Case[MOST_CASES];
    private int opened;
    private final Piece[] pieces = new Piece[MOST_PIECES];
    private int made;
    private final Laying laying = new Laying();
    private final Share[] shares = new Share[NAMES];
    private final int[] waits = new int[NAMES * NAMES];
    private final int[] waited = new int[NAMES * NAMES];

    public TrailFinder() {
        for (int i = 0; i < shares.length; i++) shares[i] = new Share();
    }

    // ---- the log

    public int open() {
        if (opened >= MOST_CASES) return FULL;
        cases[opened] = new Case();
        return opened++;
    }

    public int add(int c, int name, int hand, int begin, int end) {
        Case trail = inLog(c);
        if (trail == null || !isName(name) || !isHand(hand) || !isTime(begin) || !isTime(end)) return BAD;
        if (trail.length >= MOST_DEEDS) return FULL;
        trail.put(name, hand, begin, end);
        return trail.length;
    }

    public int cut(int c) {
        Case trail = inLog(c);
        if (trail == null || trail.length == 0) return BAD;
        trail.length--;
        return trail.length;
    }

    public int drop(int c, boolean is) {
        Case trail = caseAt(c);
        if (trail == null) return BAD;
        int was = trail.dropped ? 1 : 0;
        trail.dropped = is;
        return was;
    }

    public int told(int c, int i, int what) {
        Case trail = caseAt(c);
        if (trail == null) return NOT_TOLD;
        if (i == -1 && what == 0) return trail.length;
        if (i == -1 && what == 1) return trail.dropped ? 1 : 0;
        if (i < 0 || i >= trail.length || what < NAME || what > END) return NOT_TOLD;
        return trail.tell(i, what);
    }

    public int follows(int a, int b) {
        if (!isName(a) || !isName(b)) return BAD;
        return pairs(NAME, b, a);
    }

    public int stands(int name, int what) {
        if (!isName(name) || what < 0 || what > 2) return BAD;
        int often = 0;
        for (int c = 0; c < opened; c++) {
            Case trail = inLog(c);
            if (trail == null || trail.length == 0) continue;
            if (what == 0 && trail.tell(0, NAME) == name) often++;
            if (what == 1 && trail.tell(trail.length - 1, NAME) == name) often++;
            if (what == 2) often += trail.timesNamed(name);
        }
        return often;
    }

    // ---- pieces

    public int deed(int name) {
        if (name != -1 && !isName(name)) return BAD;
        return keep(name == -1 ? silence() : deedOf(name), 1);
    }

    public int join(int kind, int a, int b) {
        Piece first = pieceAt(a);
        Piece second = pieceAt(b);
        if (kind < ROW || kind > LOOP || first == null || second == null) return BAD;
        return keep(two(kind, first, second), 1);
    }

    public int more(int p, int a) {
        Piece piece = pieceAt(p);
        Piece part = pieceAt(a);
        if (piece == null || part == null || piece.parts.length == 0) return BAD;
        Piece[] parts = new Piece[piece.parts.length + 1];
        for (int i = 0; i < piece.parts.length; i++) parts[i] = piece.parts[i];
        parts[piece.parts.length] = part;
        return keep(new Piece(piece.kind, NONE, parts), 1);
    }

    public int piece(int p, int what) {
        Piece piece = pieceAt(p);
        if (piece == null || what < 0 || what >= 4 + MOST_PARTS) return BAD;
        if (what == 0) return piece.kind;
        if (what == 1) return piece.name;
        if (what == 2) return piece.parts.length;
        if (what == 3) return piece.size;
        return what - 4 < piece.parts.length ? piece.parts[what - 4].number : NONE;
    }

    public int plain(int p) {
        Piece piece = pieceAt(p);
        if (piece == null) return BAD;
        Piece plainer = plainOf(piece, 0);
        return keep(plainer, plainer.size);
    }

    public int like(int p, int q) {
        Piece first = pieceAt(p);
        Piece second = pieceAt(q);
        if (first == null || second == null) return BAD;
        return order(first, second, 0) == 0 ? 1 : 0;
    }

    public int find() {
        Share log = shares[0];
        log.filled = 0;
        for (int c = 0; c < opened; c++) {
            Case trail = inLog(c);
            if (trail != null) log.put(trail.row());
        }
        Piece net = found(shares, 0);
        return keep(net, net.size);
    }

    // ---- laying

    public int price(int c, int p) {
        Case trail = inLog(c);
        Piece piece = pieceAt(p);
        if (trail == null || piece == null) return BAD;
        laying.lay(trail, piece);
        return laying.least;
    }

    public int both(int c, int p) {
        Case trail = inLog(c);
        Piece piece = pieceAt(p);
        if (trail == null || piece == null) return BAD;
        laying.lay(trail, piece);
        return laying.number;
    }

    public int shortest(int p) {
        Piece piece = pieceAt(p);
        return piece == null ? BAD : piece.fewest;
    }

    public int fit(int p, int what) {
        Piece piece = pieceAt(p);
        if (piece == null || what < 0 || what > 3) return BAD;
        if (what == 2) return deedsInLog() + trailsInLog() * piece.fewest;
        int fitting = 0;
        int together = 0;
        int worst = NONE;
        int greatest = -1;
        for (int c = 0; c < opened; c++) {
            Case trail = inLog(c);
            if (trail == null) continue;
            laying.lay(trail, piece);
            together += laying.least;
            if (laying.least == 0) fitting++;
            if (laying.least > greatest) {
                greatest = laying.least;
                worst = c;
            }
        }
        return what == 0 ? fitting : what == 1 ? together : worst;
    }

    // ---- times, hands

    public int work(int name, int what) {
        if (!isName(name) || what < 0 || what > 3) return BAD;
        Spans spans = new Spans();
        for (int c = 0; c < opened; c++) {
            Case trail = inLog(c);
            if (trail == null) continue;
            for (int i = 0; i < trail.length; i++) {
                if (trail.tell(i, NAME) == name) spans.take(trail.tell(i, BEGIN), trail.tell(i, END));
            }
        }
        return spans.tell(what);
    }

    public int lag(int a, int b, int what) {
        if (!isName(a) || !isName(b) || what < 0 || what > 3) return BAD;
        Spans spans = new Spans();
        for (int c = 0; c < opened; c++) {
            Case trail = inLog(c);
            if (trail == null) continue;
            for (int i = 1; i < trail.length; i++) {
                if (trail.tell(i - 1, NAME) == b && trail.tell(i, NAME) == a) {
                    spans.take(trail.tell(i - 1, END), trail.tell(i, BEGIN));
                }
            }
        }
        return spans.tell(what);
    }

    public int slow(int i) {
        if (i < 0) return BAD;
        sumWaits();
        for (int pair = 0; pair < waits.length; pair++) {
            if (waited[pair] > 0 && slowerThan(pair) == i) return pair;
        }
        return NONE;
    }

    public int passes(int h, int g) {
        if (!isHand(h) || !isHand(g)) return BAD;
        return pairs(HAND, h, g);
    }

    public int count(int what) {
        switch (what) {
            case 0: return opened;
            case 1: return trailsInLog();
            case 2: return deedsInLog();
            case 3: return namesInLog();
            case 4: return made;
            case 5: return unlikeTrails();
            default: return BAD;
        }
    }

    // ---- what the calls are made of

    private static boolean isName(int name) {
        return name >= 0 && name < NAMES;
    }

    private static boolean isHand(int hand) {
        return hand >= 0 && hand < HANDS;
    }

    private static boolean isTime(int time) {
        return time == MISSING || (time >= 0 && time <= LATEST);
    }

    private Case caseAt(int c) {
        return c >= 0 && c < opened && c < cases.length ? cases[c] : null;
    }

    /** The case, or null if it is dropped: but for telling and dropping, such a one counts as none. */
    private Case inLog(int c) {
        Case trail = caseAt(c);
        return trail == null || trail.dropped ? null : trail;
    }

    private Piece pieceAt(int p) {
        return p >= 0 && p < made && p < pieces.length ? pieces[p] : null;
    }

    /** How often a deed that tells the one stands right ahead of a deed that tells the other. */
    private int pairs(int what, int ahead, int behind) {
        int often = 0;
        for (int c = 0; c < opened; c++) {
            Case trail = inLog(c);
            if (trail == null) continue;
            for (int i = 1; i < trail.length; i++) {
                if (trail.tell(i - 1, what) == ahead && trail.tell(i, what) == behind) often++;
            }
        }
        return often;
    }

    private int trailsInLog() {
        int trails = 0;
        for (int c = 0; c < opened; c++) {
            if (inLog(c) != null) trails++;
        }
        return trails;
    }

    private int deedsInLog() {
        int deeds = 0;
        for (int c = 0; c < opened; c++) {
            Case trail = inLog(c);
            if (trail != null) deeds += trail.length;
        }
        return deeds;
    }

    private int namesInLog() {
        int names = 0;
        for (int name = 0; name < NAMES; name++) {
            if (stands(name, 2) > 0) names++;
        }
        return names;
    }

    private int unlikeTrails() {
        int unlike = 0;
        for (int c = 0; c < opened; c++) {
            Case trail = inLog(c);
            if (trail != null && !stoodAhead(trail.row(), c)) unlike++;
        }
        return unlike;
    }

    private boolean stoodAhead(int row, int c) {
        for (int i = 0; i < c; i++) {
            Case trail = inLog(i);
            if (trail != null && trail.row() == row) return true;
        }
        return false;
    }

    private void sumWaits() {
        Arrays.fill(waits, 0);
        Arrays.fill(waited, 0);
        for (int c = 0; c < opened; c++) {
            Case trail = inLog(c);
            if (trail == null) continue;
            for (int i = 1; i < trail.length; i++) sumWait(trail, i);
        }
    }

    private void sumWait(Case trail, int i) {
        int from = trail.tell(i - 1, END);
        int to = trail.tell(i, BEGIN);
        int pair = NAMES * trail.tell(i, NAME) + trail.tell(i - 1, NAME);
        if (from == MISSING || to == MISSING || pair < 0 || pair >= waits.length) return;
        waits[pair] += to - from;
        waited[pair]++;
    }

    private int slowerThan(int pair) {
        int slower = 0;
        for (int other = 0; other < waits.length; other++) {
            if (waited[other] == 0) continue;
            if (waits[other] > waits[pair] || (waits[other] == waits[pair] && other < pair)) slower++;
        }
        return slower;
    }

    /** Keeps a piece of which so many pieces are new, or nothing of it: its number, or FULL. */
    private int keep(Piece piece, int fresh) {
        if (piece.size > MOST_SIZE || made + fresh > MOST_PIECES) return FULL;
        made = enter(piece, pieces, made, 0);
        return piece.number;
    }

    /** Parts go in ahead of what they are parts of; those that have a number are in already. */
    private static int enter(Piece piece, Piece[] pieces, int made, int depth) {
        if (piece.number != NONE || depth > DEEPEST) return made;
        int next = made;
        for (int i = 0; i < piece.parts.length; i++) next = enter(piece.parts[i], pieces, next, depth + 1);
        if (next < 0 || next >= pieces.length) return made;
        pieces[next] = piece;
        piece.number = next;
        return next + 1;
    }

    private static Piece silence() {
        return new Piece(SILENT, NONE, new Piece[0]);
    }

    private static Piece deedOf(int name) {
        return new Piece(DEED, name, new Piece[0]);
    }

    private static Piece two(int kind, Piece first, Piece second) {
        return new Piece(kind, NONE, new Piece[] {first, second});
    }

    // ---- order and plainness of pieces

    /** Below 0: the first stands first in order; above 0: the second; 0: they are alike. */
    private static int order(Piece a, Piece b, int depth) {
        if (a.kind != b.kind) return Integer.compare(a.kind, b.kind);
        if (a.name != b.name) return Integer.compare(a.name, b.name);
        if (a.parts.length != b.parts.length) return Integer.compare(a.parts.length, b.parts.length);
        if (depth > DEEPEST) return 0;
        for (int i = 0; i < a.parts.length && i < b.parts.length; i++) {
            int first = order(a.parts[i], b.parts[i], depth + 1);
            if (first != 0) return first;
        }
        return 0;
    }

    private static Piece plainOf(Piece piece, int depth) {
        if (piece.kind == DEED) return deedOf(piece.name);
        if (piece.kind == SILENT || depth > DEEPEST) return silence();
        ArrayList<Piece> kept = new ArrayList<Piece>();
        for (int i = 0; i < piece.parts.length; i++) {
            takeIn(kept, piece.kind, plainOf(piece.parts[i], depth + 1));
        }
        if (kept.size() == 0) return silence();
        if (kept.size() == 1) return kept.get(0);
        Piece[] parts = new Piece[kept.size()];
        for (int i = 0; i < parts.length; i++) parts[i] = kept.get(i);
        return new Piece(piece.kind, NONE, parts);
    }

    private static void takeIn(ArrayList<Piece> kept, int kind, Piece part) {
        if (part.kind == SILENT && (kind == ROW || kind == BESIDE)) return;
        if (part.kind != kind || kind == LOOP) {
            place(kept, kind, part);
            return;
        }
        for (int i = 0; i < part.parts.length; i++) place(kept, kind, part.parts[i]);
    }

    private static void place(ArrayList<Piece> kept, int kind, Piece part) {
        int at = kind == ROW ? kept.size() : kind == LOOP ? Math.min(1, kept.size()) : 0;
        while (at < kept.size() && order(kept.get(at), part, 0) < 0) at++;
        boolean again = kind == CHOICE && at < kept.size() && order(kept.get(at), part, 0) == 0;
        if (!again) kept.add(at, part);
    }

    // ---- finding

    /** What is found for the rows of the share at a depth; the deeper shares are filled for it. */
    private static Piece found(Share[] shares, int depth) {
        if (depth < 0 || depth >= shares.length) return silence();
        Share share = shares[depth];
        int all = share.filled;
        share.leaveOutEmpty();
        if (share.filled == 0) return silence();
        Piece full = foundOfFull(shares, depth);
        return share.filled < all ? two(CHOICE, silence(), full) : full;
    }

    private static Piece foundOfFull(Share[] shares, int depth) {
        if (depth < 0 || depth >= shares.length) return silence();
        Share share = shares[depth];
        share.look();
        if (Integer.bitCount(share.names) == 1) return foundOfOneName(share);
        int kind = share.cutsTo();
        if (kind == NONE || depth + 1 >= shares.length) return flower(share.names);
        Piece[] parts = new Piece[share.cutInto];
        for (int i = 0; i < parts.length; i++) {
            shares[depth + 1].takeFrom(share, share.parts[i], kind);
            parts[i] = found(shares, depth + 1);
        }
        return new Piece(kind, NONE, parts);
    }

    private static Piece foundOfOneName(Share share) {
        Piece deed = deedOf(Share.nameIn(share.rows[0], 0));
        return share.hasLongRow() ? two(LOOP, deed, silence()) : deed;
    }

    private static Piece flower(int names) {
        Piece[] deeds = new Piece[Integer.bitCount(names)];
        int filled = 0;
        for (int name = 0; name < NAMES; name++) {
            if ((names & (1 << name)) == 0 || filled >= deeds.length) continue;
            deeds[filled] = deedOf(name);
            filled++;
        }
        return two(LOOP, new Piece(CHOICE, NONE, deeds), silence());
    }

    /** A case with its trail. */
    private static final class Case {
        private final int[] deeds = new int[MOST_DEEDS * TELLS];
        private int length;
        private boolean dropped;

        private void put(int name, int hand, int begin, int end) {
            if (length >= MOST_DEEDS) return;
            int at = length * TELLS;
            deeds[at + NAME] = name;
            deeds[at + HAND] = hand;
            deeds[at + BEGIN] = begin;
            deeds[at + END] = end;
            length++;
        }

        private int tell(int i, int what) {
            int at = i * TELLS + what;
            return at >= 0 && at < deeds.length ? deeds[at] : MISSING;
        }

        private int timesNamed(int name) {
            int often = 0;
            for (int i = 0; i < length; i++) {
                if (tell(i, NAME) == name) often++;
            }
            return often;
        }

        private int row() {
            int row = 0;
            for (int i = 0; i < length; i++) row |= (tell(i, NAME) + 1) << (i * NAME_BITS);
            return row;
        }
    }

    /** Times added up. */
    private static final class Spans {
        private int together;
        private int counted;
        private int greatest = NONE;
        private int missing;

        private void take(int from, int to) {
            if (from == MISSING || to == MISSING) {
                missing++;
                return;
            }
            int span = to - from;
            if (counted == 0 || span > greatest) greatest = span;
            together += span;
            counted++;
        }

        private int tell(int what) {
            return what == 0 ? together : what == 1 ? counted : what == 2 ? greatest : missing;
        }
    }

    /** A piece of a net. */
    private static final class Piece {
        private final int kind;
        private final int name;
        private final Piece[] parts;
        private final int size;
        private final int fewest;
        private int number = NONE;
        /** Made at the first laying: most pieces are never laid on, and the room is small. */
        private int[] costs;

        private Piece(int kind, int name, Piece[] parts) {
            this.kind = kind;
            this.name = name;
            this.parts = parts;
            int sizes = 1;
            for (int i = 0; i < parts.length; i++) sizes += parts[i].size;
            this.size = sizes;
            this.fewest = fewestOf(kind, parts);
        }

        private static int fewestOf(int kind, Piece[] parts) {
            if (kind == DEED) return 1;
            if (parts.length == 0) return 0;
            int fewest = parts[0].fewest;
            for (int i = 1; i < parts.length && kind != LOOP; i++) {
                fewest = kind == CHOICE ? Math.min(fewest, parts[i].fewest) : fewest + parts[i].fewest;
            }
            return fewest;
        }
    }

    /**
     * A trail laid on a piece. The cost of a set of the trail's deeds on a piece is the fewest
     * other deeds of a run in which those of the set stand in one order; NEVER if they cannot.
     */
    private static final class Laying {
        private final int[] names = new int[MOST_DEEDS];
        private int length;
        private int sets;
        private final int[] others = new int[SETS];
        private final int[] rounds = new int[SETS];
        private int least;
        private int number;

        private void lay(Case trail, Piece piece) {
            length = Math.min(trail.length, MOST_DEEDS);
            sets = 1 << length;
            for (int i = 0; i < length; i++) names[i] = trail.tell(i, NAME);
            weigh(this, piece, 0);
            choose(costsOf(piece));
        }

        private void choose(int[] costs) {
            least = NEVER;
            number = 0;
            for (int set = 0; set < sets; set++) {
                int price = length - Integer.bitCount(set) + costs[set];
                int tells = numberOf(set);
                if (price < least || (price == least && tells > number)) {
                    least = price;
                    number = tells;
                }
            }
        }

        private static int numberOf(int set) {
            int tells = 0;
            for (int i = 0; i < MOST_DEEDS; i++) {
                if ((set & (1 << i)) != 0) tells += 32 >> i;
            }
            return tells;
        }

        private static int[] costsOf(Piece piece) {
            if (piece.costs == null) piece.costs = new int[SETS];
            return piece.costs;
        }

        private static void weigh(Laying laying, Piece piece, int depth) {
            if (piece.parts.length == 0 || depth > DEEPEST) {
                laying.weighDeed(costsOf(piece), piece);
                return;
            }
            for (int i = 0; i < piece.parts.length; i++) weigh(laying, piece.parts[i], depth + 1);
            laying.weighParts(costsOf(piece), piece.kind, piece.parts);
        }

        /** Of SILENT too, whose name is none of a deed. */
        private void weighDeed(int[] costs, Piece piece) {
            Arrays.fill(costs, NEVER);
            costs[0] = piece.fewest;
            for (int i = 0; i < length; i++) {
                if (names[i] == piece.name) costs[1 << i] = 0;
            }
        }

        private void weighParts(int[] costs, int kind, Piece[] parts) {
            for (int i = 0; i < parts.length; i++) {
                int[] next = costsOf(parts[i]);
                if (i == 0) copy(next, costs);
                else if (kind == ROW) inRow(costs, next);
                else if (kind == CHOICE) cheaper(costs, next);
                else if (kind == BESIDE) mixed(costs, next);
            }
            if (kind == LOOP) weighRounds(costs, parts);
        }

        private void weighRounds(int[] costs, Piece[] parts) {
            Arrays.fill(others, NEVER);
            for (int i = 1; i < parts.length; i++) cheaper(others, costsOf(parts[i]));
            copy(others, rounds);
            inRow(rounds, costs);
            // Upwards, so that what stands ahead of the last round is known with all its rounds.
            // A round with no deed of the set only costs, so the last one has some.
            for (int set = 1; set < sets; set++) {
                for (int i = 0; i < length; i++) {
                    int ahead = set & ((1 << i) - 1);
                    if (ahead != set) costs[set] = Math.min(costs[set], costs[ahead] + rounds[set ^ ahead]);
                }
            }
        }

        /** Downwards in this and in mixed, as the costs of lesser sets are still asked for. */
        private void inRow(int[] costs, int[] next) {
            for (int set = sets - 1; set >= 0; set--) {
                int cheapest = NEVER;
                for (int i = 0; i <= length; i++) {
                    int ahead = set & ((1 << i) - 1);
                    cheapest = Math.min(cheapest, costs[ahead] + next[set ^ ahead]);
                }
                costs[set] = cheapest;
            }
        }

        private void mixed(int[] costs, int[] next) {
            for (int set = sets - 1; set >= 0; set--) {
                int cheapest = costs[0] + next[set];
                for (int some = set; some > 0; some = (some - 1) & set) {
                    cheapest = Math.min(cheapest, costs[some] + next[set ^ some]);
                }
                costs[set] = Math.min(cheapest, NEVER);
            }
        }

        private void cheaper(int[] costs, int[] next) {
            for (int set = 0; set < sets; set++) costs[set] = Math.min(costs[set], next[set]);
        }

        private void copy(int[] from, int[] to) {
            for (int set = 0; set < sets; set++) to[set] = from[set];
        }
    }

    /** Some trails, as rows of names, and how they are cut. Sets of names are numbers, a bit each. */
    private static final class Share {
        private final int[] rows = new int[MOST_ROWS];
        private int filled;
        private int names;
        private int begins;
        private int ends;
        /** Of each name those that follow it, and those that it follows. */
        private final int[] behind = new int[NAMES];
        private final int[] ahead = new int[NAMES];
        private final int[] near = new int[NAMES];
        private final int[] reached = new int[NAMES];
        private final int[] parts = new int[NAMES];
        private int cutInto;

        private void put(int row) {
            if (filled >= rows.length) return;
            rows[filled] = row;
            filled++;
        }

        private void leaveOutEmpty() {
            int all = filled;
            filled = 0;
            for (int i = 0; i < all; i++) {
                if (rows[i] != 0) put(rows[i]);
            }
        }

        private boolean hasLongRow() {
            for (int i = 0; i < filled; i++) {
                if (nameIn(rows[i], 1) != NONE) return true;
            }
            return false;
        }

        private static int nameIn(int row, int i) {
            int sign = i >= 0 && i < MOST_DEEDS ? (row >> (i * NAME_BITS)) & NAME_MASK : 0;
            return sign >= 1 && sign <= NAMES ? sign - 1 : NONE;
        }

        private void look() {
            names = 0;
            begins = 0;
            ends = 0;
            Arrays.fill(behind, 0);
            Arrays.fill(ahead, 0);
            for (int i = 0; i < filled; i++) lookAt(rows[i]);
        }

        private void lookAt(int row) {
            int last = NONE;
            for (int i = 0; i < MOST_DEEDS; i++) {
                int name = nameIn(row, i);
                if (name == NONE) break;
                names |= 1 << name;
                if (last == NONE) {
                    begins |= 1 << name;
                } else {
                    behind[last] |= 1 << name;
                    ahead[name] |= 1 << last;
                }
                last = name;
            }
            if (last != NONE) ends |= 1 << last;
        }

        /** Fills this with what the rows of a share that is cut give for one part. */
        private void takeFrom(Share whole, int part, int kind) {
            filled = 0;
            for (int i = 0; i < whole.filled; i++) {
                int row = whole.rows[i];
                int left = within(row, part);
                if (kind == LOOP) putStretches(row, part);
                else if (kind != CHOICE || left != 0) put(left);
            }
        }

        private static int within(int row, int part) {
            int left = 0;
            int length = 0;
            for (int i = 0; i < MOST_DEEDS; i++) {
                int name = nameIn(row, i);
                if (name == NONE) break;
                if ((part & (1 << name)) == 0) continue;
                left |= (name + 1) << (length * NAME_BITS);
                length++;
            }
            return left;
        }

        private void putStretches(int row, int part) {
            int stretch = 0;
            int length = 0;
            for (int i = 0; i <= MOST_DEEDS; i++) {
                int name = nameIn(row, i);
                if (name != NONE && (part & (1 << name)) != 0) {
                    stretch |= (name + 1) << (length * NAME_BITS);
                    length++;
                } else {
                    if (length > 0) put(stretch);
                    stretch = 0;
                    length = 0;
                }
            }
        }

        /** The kind of the first cut that gives more than one part; NONE if none does. */
        private int cutsTo() {
            if (cutsToChoice()) return CHOICE;
            if (cutsToRow()) return ROW;
            if (cutsToBeside()) return BESIDE;
            if (cutsToLoop()) return LOOP;
            return NONE;
        }

        /** Parts the names among those given by who is near whom, by their least names. */
        private void partByNear(int among) {
            cutInto = 0;
            int left = among;
            for (int name = 0; name < NAMES; name++) {
                if ((left & (1 << name)) == 0 || cutInto >= parts.length) continue;
                int part = closed(1 << name, near) & among;
                parts[cutInto] = part;
                cutInto++;
                left &= ~part;
            }
        }

        /** The names, and those that can be come to from them; a step for each name comes to all. */
        private static int closed(int from, int[] steps) {
            int all = from;
            for (int step = 0; step < NAMES; step++) {
                for (int name = 0; name < NAMES && name < steps.length; name++) {
                    if ((all & (1 << name)) != 0) all |= steps[name];
                }
            }
            return all;
        }

        private boolean cutsToChoice() {
            for (int name = 0; name < NAMES; name++) near[name] = behind[name] | ahead[name];
            partByNear(names);
            return cutInto > 1;
        }

        private boolean cutsToRow() {
            for (int name = 0; name < NAMES; name++) reached[name] = closed(behind[name], behind);
            for (int a = 0; a < NAMES; a++) {
                near[a] = 0;
                for (int b = 0; b < NAMES; b++) {
                    boolean there = (reached[a] & (1 << b)) != 0;
                    boolean back = (reached[b] & (1 << a)) != 0;
                    if (there == back) near[a] |= names & (1 << b);
                }
            }
            // That two of these parts reach one another cannot be: if c, outside a part, reached
            // one name of it and were reached by another, it would do so with two that are near,
            // and one of those would reach the other, one way only, through c.
            partByNear(names);
            orderByReach();
            return cutInto > 1;
        }

        private void orderByReach() {
            for (int i = 1; i < cutInto; i++) {
                int part = parts[i];
                int at = i;
                while (at > 0 && reaches(part, parts[at - 1])) {
                    parts[at] = parts[at - 1];
                    at--;
                }
                parts[at] = part;
            }
        }

        private boolean reaches(int part, int other) {
            for (int name = 0; name < NAMES; name++) {
                if ((part & (1 << name)) != 0 && (reached[name] & other) != 0) return true;
            }
            return false;
        }

        private boolean cutsToBeside() {
            for (int name = 0; name < NAMES; name++) near[name] = names & ~(behind[name] & ahead[name]);
            partByNear(names);
            for (int i = 0; i < cutInto; i++) {
                if ((parts[i] & begins) == 0 || (parts[i] & ends) == 0) return false;
            }
            return cutInto > 1;
        }

        private boolean cutsToLoop() {
            int body = begins | ends;
            int rest = names & ~body;
            for (int name = 0; name < NAMES; name++) near[name] = (behind[name] | ahead[name]) & rest;
            partByNear(rest);
            // A part that goes to the body takes no other with it, as no name of a part follows
            // one of another part: so each is asked once.
            int all = body;
            for (int i = 0; i < cutInto; i++) {
                if (goesTo(body, parts[i])) all |= parts[i];
            }
            partByNear(names & ~all);
            putAhead(all);
            return cutInto > 1;
        }

        private void putAhead(int part) {
            if (cutInto >= parts.length) return;
            for (int i = cutInto; i > 0; i--) parts[i] = parts[i - 1];
            parts[0] = part;
            cutInto++;
        }

        private boolean goesTo(int body, int part) {
            for (int name = 0; name < NAMES; name++) {
                if ((part & (1 << name)) == 0) continue;
                if ((ahead[name] & body & ~ends) != 0) return true;
                if ((behind[name] & body & ~begins) != 0) return true;
                if (someNotAll(ahead[name], ends) || someNotAll(behind[name], begins)) return true;
            }
            return false;
        }

        private static boolean someNotAll(int names, int of) {
            return (names & of) != 0 && (names & of) != of;
        }
    }
}
