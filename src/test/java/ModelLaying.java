import java.util.ArrayList;
import java.util.HashMap;
import java.util.List;
import java.util.Map;
import java.util.TreeMap;

/**
 * The least price of a trail on a net, told by walking through the runs deed by deed: a state is
 * what is left of the net, and the steps are a deed of the run alone, one of the trail alone, or
 * both. Another way than the program's, which never looks at a run.
 */
final class ModelLaying {
    /** A price counts as much as any number that tells deeds, which is 63 at most. */
    private static final int PRICE = 64;
    /** Beside the kinds of the document: what is left of a loop behind its first part. */
    private static final int TAIL = 6;

    final int price;
    final int both;

    private final Map<String, Model.Net> nets = new HashMap<>();

    ModelLaying(List<Integer> trail, Model.Net net) {
        Map<String, Integer> states = new HashMap<>();
        states.put(key(net), 0);
        for (int i = 0; i <= trail.size(); i++) {
            spread(states);
            if (i == trail.size()) break;
            Map<String, Integer> next = new HashMap<>();
            for (Map.Entry<String, Integer> state : states.entrySet()) {
                lower(next, state.getKey(), state.getValue() + PRICE);
                for (Step step : steps(nets.get(state.getKey()))) {
                    if (step.name == trail.get(i)) lower(next, key(step.left), state.getValue() - (32 >> i));
                }
            }
            states = next;
        }
        int least = Integer.MAX_VALUE;
        for (Map.Entry<String, Integer> state : states.entrySet()) {
            if (canEnd(nets.get(state.getKey()))) least = Math.min(least, state.getValue());
        }
        price = Math.floorDiv(least + PRICE - 1, PRICE);
        both = price * PRICE - least;
    }

    private String key(Model.Net net) {
        String key = text(net);
        nets.putIfAbsent(key, net);
        return key;
    }

    private static String text(Model.Net net) {
        if (net.kind < TAIL) return net.kind < 2 ? net.text() : kindAndParts(net);
        return "T" + kindAndParts(net);
    }

    private static String kindAndParts(Model.Net net) {
        StringBuilder text = new StringBuilder().append(net.kind).append('(');
        for (Model.Net part : net.parts) text.append(text(part)).append(' ');
        return text.append(')').toString();
    }

    private static boolean lower(Map<String, Integer> states, String key, int value) {
        Integer had = states.get(key);
        if (had != null && had <= value) return false;
        states.put(key, value);
        return true;
    }

    /** Deeds of the run alone, cheapest states first. */
    private void spread(Map<String, Integer> states) {
        TreeMap<Integer, List<String>> open = new TreeMap<>();
        states.forEach((key, value) -> open.computeIfAbsent(value, v -> new ArrayList<>()).add(key));
        while (!open.isEmpty()) {
            Map.Entry<Integer, List<String>> cheapest = open.pollFirstEntry();
            for (String key : cheapest.getValue()) {
                if (states.get(key) < cheapest.getKey()) continue;
                for (Step step : steps(nets.get(key))) {
                    String left = key(step.left);
                    int value = cheapest.getKey() + PRICE;
                    if (lower(states, left, value)) open.computeIfAbsent(value, v -> new ArrayList<>()).add(left);
                }
            }
        }
    }

    private record Step(int name, Model.Net left) { }

    private static Model.Net row(Model.Net... parts) {
        List<Model.Net> left = new ArrayList<>();
        for (Model.Net part : parts) {
            if (part.kind == 2) left.addAll(part.parts);
            else if (part.kind != 1) left.add(part);
        }
        if (left.isEmpty()) return Model.Net.silent();
        return left.size() == 1 ? left.get(0) : new Model.Net(2, Model.NONE, left);
    }

    private static Model.Net rest(List<Model.Net> parts, int from) {
        return row(parts.subList(from, parts.size()).toArray(new Model.Net[0]));
    }

    static boolean canEnd(Model.Net net) {
        if (net.kind == 0) return false;
        if (net.kind == 1 || net.kind == TAIL) return true;
        if (net.kind == 3) return net.parts.stream().anyMatch(ModelLaying::canEnd);
        if (net.kind == 5) return canEnd(net.parts.get(0));
        return net.parts.stream().allMatch(ModelLaying::canEnd);
    }

    private static List<Step> steps(Model.Net net) {
        List<Step> steps = new ArrayList<>();
        if (net.kind == 0) steps.add(new Step(net.name, Model.Net.silent()));
        if (net.kind == 2) rowSteps(net.parts, steps);
        if (net.kind == 3) net.parts.forEach(part -> steps.addAll(steps(part)));
        if (net.kind == 4) besideSteps(net.parts, steps);
        if (net.kind == 5) rowSteps(List.of(net.parts.get(0), new Model.Net(TAIL, Model.NONE, net.parts)), steps);
        if (net.kind == TAIL) tailSteps(net, steps);
        return steps;
    }

    private static void rowSteps(List<Model.Net> parts, List<Step> steps) {
        for (int i = 0; i < parts.size(); i++) {
            for (Step step : steps(parts.get(i))) {
                steps.add(new Step(step.name, row(step.left, rest(parts, i + 1))));
            }
            if (!canEnd(parts.get(i))) return;
        }
    }

    private static void besideSteps(List<Model.Net> parts, List<Step> steps) {
        for (int i = 0; i < parts.size(); i++) {
            for (Step step : steps(parts.get(i))) {
                List<Model.Net> left = new ArrayList<>(parts);
                left.set(i, step.left);
                left.removeIf(part -> part.kind == 1);
                if (left.isEmpty()) steps.add(new Step(step.name, Model.Net.silent()));
                else if (left.size() == 1) steps.add(new Step(step.name, left.get(0)));
                else steps.add(new Step(step.name, new Model.Net(4, Model.NONE, left)));
            }
        }
    }

    private static void tailSteps(Model.Net tail, List<Step> steps) {
        Model.Net first = tail.parts.get(0);
        boolean firstAtOnce = false;
        for (Model.Net other : tail.parts.subList(1, tail.parts.size())) {
            for (Step step : steps(other)) steps.add(new Step(step.name, row(step.left, first, tail)));
            firstAtOnce = firstAtOnce || canEnd(other);
        }
        if (!firstAtOnce) return;
        for (Step step : steps(first)) steps.add(new Step(step.name, row(step.left, tail)));
    }
}
