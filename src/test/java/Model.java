import java.util.ArrayList;
import java.util.Arrays;
import java.util.Collections;
import java.util.HashSet;
import java.util.List;
import java.util.Set;
import java.util.TreeSet;

/**
 * The document once more, as slowly and as near to its words as can be, on the Java library:
 * what TrailFinder answers is held against it. Laying is told by ModelLaying.
 */
final class Model {
    static final int BAD = -1, FULL = -2, NONE = -3;

    /** A deed: its name, hand, begin, end, in the order in which they are told. */
    private final List<List<int[]>> trails = new ArrayList<>();
    private final List<Boolean> dropped = new ArrayList<>();
    final List<Net> pieces = new ArrayList<>();

    /** A piece, or a tree that may become pieces. */
    static final class Net {
        final int kind;
        final int name;
        final List<Net> parts;

        Net(int kind, int name, List<Net> parts) {
            this.kind = kind;
            this.name = name;
            this.parts = parts;
        }

        static Net of(int kind, Net... parts) {
            return new Net(kind, NONE, Arrays.asList(parts));
        }

        static Net deed(int name) {
            return new Net(0, name, List.of());
        }

        static Net silent() {
            return new Net(1, NONE, List.of());
        }

        int size() {
            int size = 1;
            for (Net part : parts) size += part.size();
            return size;
        }

        /** The same for those that are LIKE, and only for them. */
        String text() {
            if (kind == 0) return "n" + name;
            if (kind == 1) return "s";
            StringBuilder text = new StringBuilder().append("..RCBL".charAt(kind)).append('(');
            for (Net part : parts) text.append(part.text()).append(' ');
            return text.append(')').toString();
        }
    }

    // ---- the log

    int open() {
        if (trails.size() == 24) return FULL;
        trails.add(new ArrayList<>());
        dropped.add(false);
        return trails.size() - 1;
    }

    private boolean isCase(int c) {
        return c >= 0 && c < trails.size();
    }

    private boolean isLogged(int c) {
        return isCase(c) && !dropped.get(c);
    }

    private static boolean within(int number, int least, int most) {
        return number >= least && number <= most;
    }

    int add(int c, int name, int hand, int begin, int end) {
        if (!isLogged(c) || !within(name, 0, 11) || !within(hand, 0, 7)) return BAD;
        if (!within(begin, -1, 1000000) || !within(end, -1, 1000000)) return BAD;
        if (trails.get(c).size() == 6) return FULL;
        trails.get(c).add(new int[] {name, hand, begin, end});
        return trails.get(c).size();
    }

    int cut(int c) {
        if (!isLogged(c) || trails.get(c).isEmpty()) return BAD;
        trails.get(c).remove(trails.get(c).size() - 1);
        return trails.get(c).size();
    }

    int drop(int c, boolean is) {
        if (!isCase(c)) return BAD;
        return dropped.set(c, is) ? 1 : 0;
    }

    int told(int c, int i, int what) {
        if (!isCase(c)) return -9;
        if (i == -1) return what == 0 ? trails.get(c).size() : what == 1 ? (dropped.get(c) ? 1 : 0) : -9;
        if (!within(i, 0, trails.get(c).size() - 1) || !within(what, 0, 3)) return -9;
        return trails.get(c).get(i)[what];
    }

    private List<List<int[]>> log() {
        List<List<int[]>> log = new ArrayList<>();
        for (int c = 0; c < trails.size(); c++) {
            if (!dropped.get(c)) log.add(trails.get(c));
        }
        return log;
    }

    private static List<Integer> namesOf(List<int[]> trail) {
        List<Integer> names = new ArrayList<>();
        for (int[] deed : trail) names.add(deed[0]);
        return names;
    }

    private List<List<Integer>> rows() {
        List<List<Integer>> rows = new ArrayList<>();
        for (List<int[]> trail : log()) rows.add(namesOf(trail));
        return rows;
    }

    int follows(int a, int b) {
        if (!within(a, 0, 11) || !within(b, 0, 11)) return BAD;
        return Cut.follows(rows(), a, b);
    }

    int stands(int name, int what) {
        if (!within(name, 0, 11) || !within(what, 0, 2)) return BAD;
        int often = 0;
        for (List<Integer> row : rows()) {
            if (what == 2) often += Collections.frequency(row, name);
            else if (!row.isEmpty() && row.get(what == 0 ? 0 : row.size() - 1) == name) often++;
        }
        return often;
    }

    // ---- pieces

    private boolean isPiece(int p) {
        return within(p, 0, pieces.size() - 1);
    }

    int deed(int name) {
        if (!within(name, -1, 11)) return BAD;
        return one(name == -1 ? Net.silent() : Net.deed(name));
    }

    private int one(Net net) {
        if (pieces.size() >= 200 || net.size() > 60) return FULL;
        pieces.add(net);
        return pieces.size() - 1;
    }

    private int all(Net tree) {
        if (pieces.size() + tree.size() > 200 || tree.size() > 60) return FULL;
        enter(tree);
        return pieces.size() - 1;
    }

    private void enter(Net tree) {
        for (Net part : tree.parts) enter(part);
        pieces.add(tree);
    }

    int join(int kind, int a, int b) {
        if (!within(kind, 2, 5) || !isPiece(a) || !isPiece(b)) return BAD;
        return one(Net.of(kind, pieces.get(a), pieces.get(b)));
    }

    int more(int p, int a) {
        if (!isPiece(p) || !isPiece(a) || pieces.get(p).parts.isEmpty()) return BAD;
        List<Net> parts = new ArrayList<>(pieces.get(p).parts);
        parts.add(pieces.get(a));
        return one(new Net(pieces.get(p).kind, NONE, parts));
    }

    int piece(int p, int what) {
        if (!isPiece(p) || !within(what, 0, 62)) return BAD;
        Net net = pieces.get(p);
        if (what < 4) return new int[] {net.kind, net.name, net.parts.size(), net.size()}[what];
        return what - 4 < net.parts.size() ? numberOf(net.parts.get(what - 4)) : NONE;
    }

    private int numberOf(Net net) {
        for (int p = 0; p < pieces.size(); p++) {
            if (pieces.get(p) == net) return p;
        }
        return NONE;
    }

    int plain(int p) {
        return isPiece(p) ? all(plainOf(pieces.get(p))) : BAD;
    }

    int like(int p, int q) {
        if (!isPiece(p) || !isPiece(q)) return BAD;
        return pieces.get(p).text().equals(pieces.get(q).text()) ? 1 : 0;
    }

    /** Step by step as it is told: left out, given in their place, alike, in order, one, none. */
    static Net plainOf(Net net) {
        if (net.kind < 2) return new Net(net.kind, net.name, List.of());
        List<Net> parts = new ArrayList<>();
        for (Net part : net.parts) parts.add(plainOf(part));
        if (net.kind == 2 || net.kind == 4) parts.removeIf(part -> part.kind == 1);
        if (net.kind != 5) parts = given(net.kind, parts);
        if (net.kind == 3) parts = unlike(parts);
        if (net.kind == 3 || net.kind == 4) parts.sort(Model::order);
        if (net.kind == 5) parts.subList(1, parts.size()).sort(Model::order);
        if (parts.size() == 1) return parts.get(0);
        return parts.isEmpty() ? Net.silent() : new Net(net.kind, NONE, parts);
    }

    private static List<Net> given(int kind, List<Net> parts) {
        List<Net> given = new ArrayList<>();
        for (Net part : parts) given.addAll(part.kind == kind ? part.parts : List.of(part));
        return given;
    }

    private static List<Net> unlike(List<Net> parts) {
        List<Net> unlike = new ArrayList<>();
        Set<String> had = new HashSet<>();
        for (Net part : parts) {
            if (had.add(part.text())) unlike.add(part);
        }
        return unlike;
    }

    static int order(Net a, Net b) {
        if (a.kind != b.kind) return a.kind - b.kind;
        if (a.name != b.name) return a.name - b.name;
        if (a.parts.size() != b.parts.size()) return a.parts.size() - b.parts.size();
        for (int i = 0; i < a.parts.size(); i++) {
            if (!a.parts.get(i).text().equals(b.parts.get(i).text())) return order(a.parts.get(i), b.parts.get(i));
        }
        return 0;
    }

    int find() {
        return all(Cut.found(rows()));
    }

    // ---- laying

    private List<Integer> trail(int c) {
        return namesOf(trails.get(c));
    }

    int price(int c, int p) {
        return isLogged(c) && isPiece(p) ? new ModelLaying(trail(c), pieces.get(p)).price : BAD;
    }

    int both(int c, int p) {
        return isLogged(c) && isPiece(p) ? new ModelLaying(trail(c), pieces.get(p)).both : BAD;
    }

    int shortest(int p) {
        return isPiece(p) ? new ModelLaying(List.of(), pieces.get(p)).price : BAD;
    }

    int fit(int p, int what) {
        if (!isPiece(p) || !within(what, 0, 3)) return BAD;
        int[] told = {0, 0, 0, NONE};
        int greatest = -1;
        for (int c = 0; c < trails.size(); c++) {
            if (dropped.get(c)) continue;
            int price = price(c, p);
            if (price == 0) told[0]++;
            told[1] += price;
            told[2] += trails.get(c).size() + shortest(p);
            if (price > greatest) told[3] = c;
            greatest = Math.max(greatest, price);
        }
        return told[what];
    }

    // ---- times, hands

    private static int span(int from, int to, int what, int[] told) {
        if (from == -1 || to == -1) {
            told[3]++;
        } else {
            told[2] = told[1] == 0 ? to - from : Math.max(told[2], to - from);
            told[0] += to - from;
            told[1]++;
        }
        return told[what];
    }

    int work(int name, int what) {
        if (!within(name, 0, 11) || !within(what, 0, 3)) return BAD;
        int[] told = {0, 0, NONE, 0};
        for (List<int[]> trail : log()) {
            for (int[] deed : trail) {
                if (deed[0] == name) span(deed[2], deed[3], what, told);
            }
        }
        return told[what];
    }

    int lag(int a, int b, int what) {
        if (!within(a, 0, 11) || !within(b, 0, 11) || !within(what, 0, 3)) return BAD;
        int[] told = {0, 0, NONE, 0};
        for (List<int[]> trail : log()) {
            for (int i = 0; i + 1 < trail.size(); i++) {
                int[] first = trail.get(i);
                int[] second = trail.get(i + 1);
                if (first[0] == b && second[0] == a) span(first[3], second[2], what, told);
            }
        }
        return told[what];
    }

    int slow(int i) {
        if (i < 0) return BAD;
        List<int[]> pairs = new ArrayList<>();
        for (int a = 0; a < 12; a++) {
            for (int b = 0; b < 12; b++) {
                if (lag(a, b, 1) > 0) pairs.add(new int[] {lag(a, b, 0), 12 * a + b});
            }
        }
        pairs.sort((one, two) -> one[0] != two[0] ? two[0] - one[0] : one[1] - two[1]);
        return i < pairs.size() ? pairs.get(i)[1] : NONE;
    }

    int passes(int h, int g) {
        if (!within(h, 0, 7) || !within(g, 0, 7)) return BAD;
        int often = 0;
        for (List<int[]> trail : log()) {
            for (int i = 0; i + 1 < trail.size(); i++) {
                if (trail.get(i)[1] == h && trail.get(i + 1)[1] == g) often++;
            }
        }
        return often;
    }

    int count(int what) {
        Set<Integer> names = new TreeSet<>();
        int deeds = 0;
        for (List<Integer> row : rows()) {
            names.addAll(row);
            deeds += row.size();
        }
        switch (what) {
            case 0: return trails.size();
            case 1: return log().size();
            case 2: return deeds;
            case 3: return names.size();
            case 4: return pieces.size();
            case 5: return new HashSet<>(rows()).size();
            default: return BAD;
        }
    }
}
