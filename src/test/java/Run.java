import java.util.ArrayList;
import java.util.List;
import java.util.function.Consumer;

/**
 * A run of calls on a new object, each with the answer that is due, for one sentence of one
 * promise. It keeps to the 512 calls for which the document promises anything.
 */
final class Run {
    private static final int PROMISED_CALLS = 512;

    private final String name;
    private final StructureMap x = new StructureMap();
    private int calls = 0;

    /** Promise 0 is what the document says before the first one. */
    Run(int promise, String sentence) {
        name = "promise " + promise + ", " + sentence;
    }

    Run file(int size, int want) {
        return due("file", x.file(size), want, size);
    }

    Run size(int file, int size, int want) {
        return due("size", x.size(file, size), want, file, size);
    }

    Run map(int kind, int want) {
        return due("map", x.map(kind), want, kind);
    }

    Run division(int map, int under, int order, int label, int want) {
        return due("division", x.division(map, under, order, label), want, map, under, order, label);
    }

    Run link(int division, int file, int from, int to, int want) {
        return due("link", x.link(division, file, from, to), want, division, file, from, to);
    }

    Run repeat(int division, int other, int want) {
        return due("repeat", x.repeat(division, other), want, division, other);
    }

    Run move(int division, int under, int want) {
        return due("move", x.move(division, under), want, division, under);
    }

    Run order(int map, int i, int want) {
        return due("order", x.order(map, i), want, map, i);
    }

    Run read(int map, int want) {
        return due("read", x.read(map), want, map);
    }

    Run step(int i, int what, int want) {
        return due("step", x.step(i, what), want, i, what);
    }

    Run check(int map, int want) {
        return due("check", x.check(map), want, map);
    }

    Run fault(int i, int what, int want) {
        return due("fault", faultOrLeast(i, what), want, i, what);
    }

    Run noFault(int i, int what) {
        count();
        Due.throwsIndex(name + ": call " + calls + ", " + written("fault", i, what), x, i, what);
        return this;
    }

    Run print(int map, int want) {
        return due("print", x.print(map), want, map);
    }

    Run at(int i, int want) {
        return due("at", x.at(i), want, i);
    }

    Run differ(int map, int other, int want) {
        return due("differ", x.differ(map, other), want, map, other);
    }

    Run about(int division, int what, int want) {
        return due("about", x.about(division, what), want, division, what);
    }

    /** A new object's first maps, of these kinds. */
    Run maps(int... kinds) {
        for (int n = 0; n < kinds.length; n++) {
            map(kinds[n], n);
        }
        return this;
    }

    /** A new object's first files, of these sizes. */
    Run files(int... sizes) {
        for (int n = 0; n < sizes.length; n++) {
            file(sizes[n], n);
        }
        return this;
    }

    /** Divisions of a map from a number on, each under the one told; order and label their numbers. */
    Run tree(int map, int first, int... unders) {
        for (int n = 0; n < unders.length; n++) {
            division(map, unders[n], first + n, first + n, first + n);
        }
        return this;
    }

    /** Divisions of a map from a number to a number under one; order and label their numbers. */
    Run row(int map, int under, int first, int last) {
        for (int n = first; n <= last; n++) {
            division(map, under, n, n, n);
        }
        return this;
    }

    /** THE ORDER of a map, and none behind it. */
    Run orders(int map, int... numbers) {
        for (int i = 0; i < numbers.length; i++) {
            order(map, i, numbers[i]);
        }
        return order(map, numbers.length, -1);
    }

    /** One thing of all STEPS of the latest reading, and none behind them. */
    Run steps(int what, int... values) {
        for (int i = 0; i < values.length; i++) {
            step(i, what, values[i]);
        }
        return step(values.length, what, -1);
    }

    /** All of the i-th STEP: division, file, from, to, and where it came. */
    Run wholeStep(int i, int... five) {
        for (int what = 0; what < five.length; what++) {
            step(i, what, five[what]);
        }
        return this;
    }

    /** A check, with its FAULTS as which and where in turn. */
    Run faults(int map, int... pairs) {
        return check(map, pairs.length / 2).stillFaults(pairs);
    }

    /** The FAULTS of the latest check, and none behind them. */
    Run stillFaults(int... pairs) {
        for (int n = 0; n < pairs.length; n++) {
            fault(n / 2, n % 2, pairs[n]);
        }
        return noFault(pairs.length / 2, 0).noFault(pairs.length / 2, 1);
    }

    Run printed(int map, String text) {
        return print(map, text.length()).stillPrinted(text);
    }

    /** The signs printed latest, and none behind them. */
    Run stillPrinted(String text) {
        for (int i = 0; i < text.length(); i++) {
            at(i, text.charAt(i));
        }
        return at(text.length(), -1);
    }

    /** Calls that change nothing, until the next one is that call. */
    Run waitFor(int call) {
        while (calls < call - 1) {
            differ(0, 0, 0);
        }
        return this;
    }

    Run with(Consumer<Run> more) {
        more.accept(this);
        return this;
    }

    /** Two objects made alike: what is seen of one is the same behind a refused call. */
    static void nothingHappens(int promise, String sentence, Consumer<Run> made, Consumer<Run> refused) {
        Run left = new Run(promise, sentence).with(made);
        Run right = new Run(promise, sentence).with(made).with(refused);
        List<String> want = left.picture();
        List<String> got = right.picture();
        int same = 0;
        while (same < want.size() && same < got.size() && want.get(same).equals(got.get(same))) {
            same++;
        }
        String there = same < got.size() ? got.get(same) : "no more";
        String due = same < want.size() ? want.get(same) : "no more";
        Due.same(right.name + ": behind the refused call " + there + ", without it " + due,
            same == want.size() && same == got.size() ? 1 : 0, 1);
    }

    /** All that the face tells: first what was read, checked, printed latest, then what is there. */
    private List<String> picture() {
        List<String> seen = new ArrayList<>();
        seeSteps(seen);
        seeFaults(seen);
        seeSigns(seen);
        for (int map = 0; see(seen, "differ", x.differ(map, 0), map, 0) >= 0; map++) {
            seeOrder(seen, map);
            see(seen, "read", x.read(map), map);
            seeSteps(seen);
            see(seen, "check", x.check(map), map);
            seeFaults(seen);
            see(seen, "print", x.print(map), map);
            seeSigns(seen);
        }
        for (int d = 0; see(seen, "about", x.about(d, 0), d, 0) >= 0; d++) {
            for (int what = 1; what <= 6; what++) {
                see(seen, "about", x.about(d, what), d, what);
            }
        }
        int file = 0;
        while (see(seen, "size", x.size(file, 1), file, 1) >= 0) {
            file++;
        }
        see(seen, "file", x.file(3), 3);
        see(seen, "map", x.map(1), 1);
        see(seen, "division", x.division(0, -1, 4, 5), 0, -1, 4, 5);
        return seen;
    }

    private void seeOrder(List<String> seen, int map) {
        int i = 0;
        while (see(seen, "order", x.order(map, i), map, i) >= 0) {
            i++;
        }
    }

    private void seeSteps(List<String> seen) {
        for (int i = 0; see(seen, "step", x.step(i, 0), i, 0) >= 0; i++) {
            for (int what = 1; what <= 4; what++) {
                see(seen, "step", x.step(i, what), i, what);
            }
        }
    }

    private void seeFaults(List<String> seen) {
        for (int i = 0; see(seen, "fault", faultOrLeast(i, 0), i, 0) >= 0; i++) {
            see(seen, "fault", faultOrLeast(i, 1), i, 1);
        }
    }

    private void seeSigns(List<String> seen) {
        int i = 0;
        while (see(seen, "at", x.at(i), i) >= 0) {
            i++;
        }
    }

    private int see(List<String> seen, String call, int got, int... arguments) {
        count();
        seen.add(written(call, arguments) + " answers " + got);
        // a broken class that never answers below 0 must not keep the picture from its end
        return calls > 2 * PROMISED_CALLS ? -1 : got;
    }

    private int faultOrLeast(int i, int what) {
        try {
            return x.fault(i, what);
        } catch (IndexOutOfBoundsException e) {
            return Integer.MIN_VALUE;
        }
    }

    private Run due(String call, int got, int want, int... arguments) {
        count();
        Due.same(name + ": call " + calls + ", " + written(call, arguments), got, want);
        return this;
    }

    private void count() {
        calls++;
        if (calls == PROMISED_CALLS + 1) {
            Due.same(name + ": a run of more calls than are promised", calls, PROMISED_CALLS);
        }
    }

    private static String written(String call, int... arguments) {
        StringBuilder all = new StringBuilder(call).append('(');
        for (int n = 0; n < arguments.length; n++) {
            all.append(n == 0 ? "" : ", ").append(arguments[n]);
        }
        return all.append(')').toString();
    }
}
