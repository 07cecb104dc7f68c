import java.util.ArrayList;
import java.util.Collections;
import java.util.List;
import java.util.Set;
import java.util.TreeSet;
import java.util.function.BiPredicate;

/** What is FOUND for some trails, as part 4 of the document tells it, by sets of names. */
final class Cut {
    private final List<List<Integer>> rows;
    private final Set<Integer> names = new TreeSet<>();
    private final Set<Integer> begins = new TreeSet<>();
    private final Set<Integer> ends = new TreeSet<>();

    private Cut(List<List<Integer>> rows) {
        this.rows = rows;
        for (List<Integer> row : rows) {
            names.addAll(row);
            begins.add(row.get(0));
            ends.add(row.get(row.size() - 1));
        }
    }

    static int follows(List<List<Integer>> rows, int a, int b) {
        int often = 0;
        for (List<Integer> row : rows) {
            for (int i = 0; i + 1 < row.size(); i++) {
                if (row.get(i) == b && row.get(i + 1) == a) often++;
            }
        }
        return often;
    }

    static Model.Net found(List<List<Integer>> rows) {
        List<List<Integer>> full = new ArrayList<>(rows);
        full.removeIf(List::isEmpty);
        if (full.isEmpty()) return Model.Net.silent();
        if (full.size() < rows.size()) return Model.Net.of(3, Model.Net.silent(), found(full));
        return new Cut(rows).foundOfFull();
    }

    private Model.Net foundOfFull() {
        if (names.size() == 1) {
            Model.Net deed = Model.Net.deed(names.iterator().next());
            boolean one = rows.stream().allMatch(row -> row.size() == 1);
            return one ? deed : Model.Net.of(5, deed, Model.Net.silent());
        }
        List<Set<Integer>> parts = together(names, (a, b) -> follows(a, b) || follows(b, a));
        if (parts.size() > 1) return cut(3, parts);
        parts = rowParts();
        if (parts.size() > 1) return cut(2, parts);
        parts = together(names, (a, b) -> !(follows(a, b) && follows(b, a)));
        if (parts.size() > 1 && parts.stream().allMatch(this::beginsAndEnds)) return cut(4, parts);
        parts = loopParts();
        if (parts.size() > 1) return cut(5, parts);
        List<Model.Net> deeds = new ArrayList<>();
        for (int name : names) deeds.add(Model.Net.deed(name));
        return Model.Net.of(5, new Model.Net(3, Model.NONE, deeds), Model.Net.silent());
    }

    private boolean follows(int a, int b) {
        return follows(rows, a, b) > 0;
    }

    private boolean beginsAndEnds(Set<Integer> part) {
        return !Collections.disjoint(part, begins) && !Collections.disjoint(part, ends);
    }

    private Model.Net cut(int kind, List<Set<Integer>> parts) {
        List<Model.Net> found = new ArrayList<>();
        for (Set<Integer> part : parts) {
            List<List<Integer>> share = new ArrayList<>();
            for (List<Integer> row : rows) {
                if (kind == 3 && part.containsAll(row)) share.add(row);
                if (kind == 2 || kind == 4) share.add(row.stream().filter(part::contains).toList());
                if (kind == 5) share.addAll(stretches(row, part));
            }
            found.add(found(share));
        }
        return new Model.Net(kind, Model.NONE, found);
    }

    private static List<List<Integer>> stretches(List<Integer> row, Set<Integer> part) {
        List<List<Integer>> stretches = new ArrayList<>();
        for (int i = 0; i < row.size(); i++) {
            if (!part.contains(row.get(i))) continue;
            if (i == 0 || !part.contains(row.get(i - 1))) stretches.add(new ArrayList<>());
            stretches.get(stretches.size() - 1).add(row.get(i));
        }
        return stretches;
    }

    /** Parts of those given; two parts are put together while a name of one is with one of the other. */
    private static List<Set<Integer>> together(Set<Integer> given, BiPredicate<Integer, Integer> with) {
        List<Set<Integer>> parts = new ArrayList<>();
        for (int name : given) parts.add(new TreeSet<>(Set.of(name)));
        return merged(parts, (p, q) -> p.stream().anyMatch(a -> q.stream().anyMatch(b -> with.test(a, b))));
    }

    private static List<Set<Integer>> merged(List<Set<Integer>> parts, BiPredicate<Set<Integer>, Set<Integer>> with) {
        for (int i = 0; i < parts.size(); i++) {
            for (int j = i + 1; j < parts.size(); j++) {
                if (with.test(parts.get(i), parts.get(j))) {
                    parts.get(i).addAll(parts.remove(j));
                    return merged(parts, with);
                }
            }
        }
        parts.sort((p, q) -> Collections.min(p) - Collections.min(q));
        return parts;
    }

    private boolean reaches(int a, int b, Set<Integer> had) {
        if (follows(b, a)) return true;
        for (int step : names) {
            if (follows(step, a) && had.add(step) && reaches(step, b, had)) return true;
        }
        return false;
    }

    private boolean reaches(int a, int b) {
        return reaches(a, b, new TreeSet<>());
    }

    private boolean anyReaches(Set<Integer> p, Set<Integer> q) {
        return p.stream().anyMatch(a -> q.stream().anyMatch(b -> reaches(a, b)));
    }

    private List<Set<Integer>> rowParts() {
        List<Set<Integer>> parts = together(names, (a, b) -> reaches(a, b) == reaches(b, a));
        parts = merged(parts, (p, q) -> anyReaches(p, q) && anyReaches(q, p));
        List<Set<Integer>> left = new ArrayList<>(parts);
        List<Set<Integer>> ordered = new ArrayList<>();
        while (!left.isEmpty()) {
            for (Set<Integer> part : left) {
                if (left.stream().noneMatch(other -> other != part && anyReaches(other, part))) {
                    ordered.add(part);
                    left.remove(part);
                    break;
                }
            }
        }
        return ordered;
    }

    private List<Set<Integer>> loopParts() {
        Set<Integer> body = new TreeSet<>(begins);
        body.addAll(ends);
        Set<Integer> others = new TreeSet<>(names);
        others.removeAll(body);
        List<Set<Integer>> parts = together(others, (a, b) -> follows(a, b) || follows(b, a));
        for (int i = 0; i < parts.size(); i++) {
            if (parts.get(i).stream().anyMatch(name -> goesToBody(name, body))) {
                body.addAll(parts.remove(i));
                i = -1;
            }
        }
        parts.add(0, body);
        return parts;
    }

    private boolean goesToBody(int name, Set<Integer> body) {
        for (int one : body) {
            if (follows(name, one) && !ends.contains(one)) return true;
            if (follows(one, name) && !begins.contains(one)) return true;
        }
        long followed = ends.stream().filter(end -> follows(name, end)).count();
        long following = begins.stream().filter(begin -> follows(begin, name)).count();
        return followed > 0 && followed < ends.size() || following > 0 && following < begins.size();
    }
}
