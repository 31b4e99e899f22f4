import java.util.ArrayList;
import java.util.Comparator;
import java.util.HashSet;
import java.util.List;
import java.util.Set;

/**
 * The document again, in the plainest way: recursion, lists, and every place of a file counted.
 * It shares no thought with the class but the document's words.
 */
final class PlainModel {
    private record Span(int division, int file, int from, int to) {
    }

    private record Step(Span span, int at) {
    }

    private static final class Node {
        int map;
        int under;
        int order;
        int label;
        int repeats = -1;
        final List<Span> spans = new ArrayList<>();
    }

    private final List<Integer> sizes = new ArrayList<>();
    private final List<Integer> kinds = new ArrayList<>();
    private final List<Node> nodes = new ArrayList<>();
    private List<Step> steps = new ArrayList<>();
    private List<int[]> faults = new ArrayList<>();
    private String text = "";

    int file(int size) {
        if (size < 0 || size > 100000) return -2;
        if (sizes.size() == 30) return -4;
        sizes.add(size);
        return sizes.size() - 1;
    }

    int size(int file, int size) {
        if (!in(file, sizes.size())) return -1;
        if (size < 0 || size > 100000) return -2;
        return sizes.set(file, size);
    }

    int map(int kind) {
        if (kind != 0 && kind != 1) return -2;
        if (kinds.size() == 5) return -4;
        kinds.add(kind);
        return kinds.size() - 1;
    }

    int division(int map, int under, int order, int label) {
        if (!in(map, kinds.size()) || under != -1 && !in(under, nodes.size())) return -1;
        if (!in(order, 1000) || !in(label, 10000)) return -2;
        if (under != -1 && (nodes.get(under).map != map || nodes.get(under).repeats != -1)) return -3;
        if (nodes.size() == 120) return -4;
        Node node = new Node();
        node.map = map;
        node.under = under;
        node.order = order;
        node.label = label;
        nodes.add(node);
        return nodes.size() - 1;
    }

    int link(int division, int file, int from, int to) {
        if (!in(division, nodes.size()) || !in(file, sizes.size())) return -1;
        if (from < 0 || from >= to || to > 100000) return -2;
        Node node = nodes.get(division);
        if (node.repeats != -1) return -3;
        if (node.spans.size() == 5) return -4;
        node.spans.add(new Span(division, file, from, to));
        return node.spans.size();
    }

    int repeat(int division, int other) {
        if (!in(division, nodes.size()) || !in(other, nodes.size())) return -1;
        Node node = nodes.get(division);
        if (!node.spans.isEmpty() || !children(node.map, division).isEmpty() || node.repeats != -1) return -3;
        if (node.map != nodes.get(other).map) return -3;
        node.repeats = other;
        if (wrong()) {
            node.repeats = -1;
            return -3;
        }
        return 1;
    }

    int move(int division, int under) {
        if (!in(division, nodes.size()) || under != -1 && !in(under, nodes.size())) return -1;
        Node node = nodes.get(division);
        if (under != -1) {
            if (nodes.get(under).map != node.map || nodes.get(under).repeats != -1) return -3;
            if (under == division || above(under).contains(division)) return -3;
        }
        int before = node.under;
        node.under = under;
        if (wrong()) {
            node.under = before;
            return -3;
        }
        return 1;
    }

    /** Whether some division repeats what the document says can't be, as all stands now. */
    private boolean wrong() {
        for (int d = 0; d < nodes.size(); d++) {
            int other = nodes.get(d).repeats;
            if (other == -1) continue;
            if (other == d || above(d).contains(other) || above(other).contains(d)) return true;
            Set<Integer> from = new HashSet<>();
            collect(other, from);
            if (from.contains(d)) return true;
            for (int up : above(d)) {
                if (from.contains(up)) return true;
            }
        }
        return false;
    }

    private void collect(int d, Set<Integer> into) {
        if (!into.add(d)) return;
        for (int child : children(nodes.get(d).map, d)) collect(child, into);
        if (nodes.get(d).repeats != -1) collect(nodes.get(d).repeats, into);
    }

    private List<Integer> above(int d) {
        List<Integer> up = new ArrayList<>();
        for (int u = nodes.get(d).under; u != -1; u = nodes.get(u).under) up.add(u);
        return up;
    }

    private List<Integer> children(int map, int under) {
        List<Integer> all = new ArrayList<>();
        for (int d = 0; d < nodes.size(); d++) {
            if (nodes.get(d).map == map && nodes.get(d).under == under) all.add(d);
        }
        all.sort(Comparator.comparingInt((Integer d) -> nodes.get(d).order).thenComparingInt(d -> d));
        return all;
    }

    private List<Integer> ordered(int map, int under) {
        List<Integer> all = new ArrayList<>();
        for (int d : children(map, under)) {
            all.add(d);
            all.addAll(ordered(map, d));
        }
        return all;
    }

    int order(int map, int i) {
        if (!in(map, kinds.size())) return -1;
        List<Integer> all = ordered(map, -1);
        return in(i, all.size()) ? all.get(i) : -1;
    }

    private int left;

    private List<Step> reading(int map) {
        left = 1000;
        List<Step> all = new ArrayList<>();
        for (int d : children(map, -1)) visit(d, -1, all);
        return all;
    }

    private void visit(int d, int at, List<Step> into) {
        if (left == 0) return;
        left--;
        Node node = nodes.get(d);
        for (Span span : node.spans) into.add(new Step(span, at == -1 ? d : at));
        for (int child : children(node.map, d)) visit(child, at, into);
        if (node.repeats != -1) visit(node.repeats, at == -1 ? d : at, into);
    }

    int read(int map) {
        if (!in(map, kinds.size())) return -1;
        steps = reading(map);
        return steps.size();
    }

    int step(int i, int what) {
        if (!in(i, steps.size()) || !in(what, 5)) return -1;
        Step step = steps.get(i);
        Span span = step.span();
        return new int[] {span.division(), span.file(), span.from(), span.to(), step.at()}[what];
    }

    int check(int map) {
        if (!in(map, kinds.size())) return -1;
        faults = new ArrayList<>();
        for (int d = 0; d < nodes.size(); d++) {
            Node node = nodes.get(d);
            if (node.map != map) continue;
            if (node.spans.isEmpty() && children(map, d).isEmpty() && node.repeats == -1) fault(1, d, true);
            boolean same = false;
            for (int e = 0; e < d; e++) {
                Node low = nodes.get(e);
                same |= low.map == map && low.under == node.under && low.order == node.order;
            }
            fault(2, d, same);
            fault(3, d, node.spans.stream().anyMatch(s -> s.to() > sizes.get(s.file())));
        }
        if (kinds.get(map) == 0) {
            List<Step> all = reading(map);
            for (int f = 0; f < sizes.size(); f++) checkFile(f, all);
        }
        return faults.size();
    }

    private void checkFile(int file, List<Step> all) {
        int[] covered = new int[sizes.get(file)];
        for (Step step : all) {
            if (step.span().file() != file) continue;
            for (int p = step.span().from(); p < step.span().to() && p < covered.length; p++) covered[p]++;
        }
        boolean twice = false;
        boolean never = false;
        for (int times : covered) {
            twice |= times > 1;
            never |= times == 0;
        }
        fault(4, file, twice);
        fault(5, file, never);
    }

    private void fault(int which, int where, boolean there) {
        if (there) faults.add(new int[] {which, where});
    }

    /** The answer, or the least int where an IndexOutOfBoundsException is due. */
    int fault(int i, int what) {
        return in(i, faults.size()) && in(what, 2) ? faults.get(i)[what] : Integer.MIN_VALUE;
    }

    int print(int map) {
        if (!in(map, kinds.size())) return -1;
        StringBuilder all = new StringBuilder();
        for (int d : ordered(map, -1)) {
            all.append(" ".repeat(above(d).size())).append(nodes.get(d).label);
            all.append(nodes.get(d).repeats == -1 ? "" : "=").append('\n');
        }
        text = all.toString();
        return text.length();
    }

    int at(int i) {
        return in(i, text.length()) ? text.charAt(i) : -1;
    }

    int differ(int map, int other) {
        if (!in(map, kinds.size()) || !in(other, kinds.size())) return -1;
        List<Integer> one = ordered(map, -1);
        List<Integer> two = ordered(other, -1);
        int places = Math.abs(one.size() - two.size());
        for (int i = 0; i < Math.min(one.size(), two.size()); i++) {
            int a = one.get(i);
            int b = two.get(i);
            if (nodes.get(a).label != nodes.get(b).label || above(a).size() != above(b).size()) places++;
        }
        return places;
    }

    int about(int division, int what) {
        if (!in(division, nodes.size()) || !in(what, 7)) return -1;
        Node node = nodes.get(division);
        return new int[] {node.map, node.under, node.order, node.label, node.spans.size(), node.repeats,
            ordered(node.map, division).size()}[what];
    }

    private static boolean in(int i, int end) {
        return i >= 0 && i < end;
    }
}
