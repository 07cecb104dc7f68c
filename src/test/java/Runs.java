import java.util.List;
import java.util.Set;
import java.util.TreeSet;

/** All RUNS of a piece up to a length, as texts, just as part 2 of the document tells them. */
final class Runs {
    private Runs() { }

    static Set<String> of(TrailFinder x, int p, int most) {
        Set<String> runs = new TreeSet<>();
        int kind = x.piece(p, 0);
        if (kind == 0) runs.add("" + (char) ('a' + x.piece(p, 1)));
        if (kind == 1) runs.add("");
        for (int i = 0; i < x.piece(p, 2); i++) {
            Set<String> part = of(x, x.piece(p, 4 + i), most);
            if (i == 0 || kind == 3) runs.addAll(part);
            else if (kind == 2) runs = rows(runs, part, most);
            else if (kind == 4) runs = mixes(runs, part, most);
        }
        return kind == 5 ? loops(x, p, runs, most) : runs;
    }

    private static Set<String> loops(TrailFinder x, int p, Set<String> first, int most) {
        Set<String> others = new TreeSet<>();
        for (int i = 1; i < x.piece(p, 2); i++) others.addAll(of(x, x.piece(p, 4 + i), most));
        Set<String> runs = new TreeSet<>(first);
        int before;
        do {
            before = runs.size();
            runs.addAll(rows(rows(runs, others, most), first, most));
        } while (runs.size() > before);
        return runs;
    }

    private static Set<String> rows(Set<String> ahead, Set<String> behind, int most) {
        Set<String> rows = new TreeSet<>();
        for (String a : ahead) {
            for (String b : behind) {
                if (a.length() + b.length() <= most) rows.add(a + b);
            }
        }
        return rows;
    }

    private static Set<String> mixes(Set<String> one, Set<String> other, int most) {
        Set<String> mixes = new TreeSet<>();
        for (String a : one) {
            for (String b : other) {
                if (a.length() + b.length() <= most) mix("", a, b, mixes);
            }
        }
        return mixes;
    }

    private static void mix(String done, String a, String b, Set<String> mixes) {
        if (a.isEmpty() || b.isEmpty()) {
            mixes.add(done + a + b);
            return;
        }
        mix(done + a.charAt(0), a.substring(1), b, mixes);
        mix(done + b.charAt(0), a, b.substring(1), mixes);
    }

    /** The least price, and the greatest number that tells deeds that are both with it. */
    static int[] best(String trail, List<String> runs) {
        int[] best = {Integer.MAX_VALUE, 0};
        for (String run : runs) {
            for (int set = 0; set < 1 << trail.length(); set++) {
                int price = trail.length() + run.length() - 2 * Integer.bitCount(set);
                if (price > best[0] || !stands(trail, set, run)) continue;
                int number = 0;
                for (int i = 0; i < trail.length(); i++) number += (set >> i & 1) * (32 >> i);
                best[1] = price < best[0] ? number : Math.max(best[1], number);
                best[0] = price;
            }
        }
        return best;
    }

    private static boolean stands(String trail, int set, String run) {
        int at = -1;
        for (int i = 0; i < trail.length(); i++) {
            if ((set >> i & 1) == 0) continue;
            at = run.indexOf(trail.charAt(i), at + 1);
            if (at < 0) return false;
        }
        return true;
    }
}
