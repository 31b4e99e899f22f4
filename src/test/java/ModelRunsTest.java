import java.util.Random;

/** Runs of 512 calls, drawn from written seeds, each answer compared with the plain model's. */
public final class ModelRunsTest {
    private static final int PROMISED_CALLS = 512;

    private final Random random;
    private final StructureMap x = new StructureMap();
    private final PlainModel m = new PlainModel();
    private final String name;
    private final int maps;
    private final int files;
    private final int orders;
    private final int places;
    private final int weight;
    private final boolean repeating;
    private int calls;
    private int divisions;
    private boolean wide;

    private ModelRunsTest(int seed) {
        random = new Random(seed);
        name = "seed " + seed;
        repeating = random.nextInt(3) == 0;
        maps = repeating ? 1 : 1 + random.nextInt(3);
        files = 1 + random.nextInt(4);
        orders = 1 + random.nextInt(8);
        places = 2 + random.nextInt(40);
        weight = random.nextInt(5);
    }

    public static void main(String[] args) {
        int seeds = args.length > 0 ? Integer.parseInt(args[0]) : 800;
        for (int seed = 0; seed < seeds; seed++) {
            new ModelRunsTest(seed).run();
        }
        Due.end();
    }

    private void run() {
        for (int n = 0; n < maps; n++) {
            int kind = random.nextInt(3) == 0 ? 1 : 0;
            due("map", x.map(kind), m.map(kind));
        }
        for (int n = 0; n < files; n++) {
            int size = random.nextInt(places);
            due("file", x.file(size), m.file(size));
        }
        while (calls < PROMISED_CALLS) {
            wide = random.nextInt(40) == 0;
            call();
        }
    }

    /** What one turn asks behind the last promised call is not looked at. */
    private void due(String call, int got, int want) {
        calls++;
        if (calls <= PROMISED_CALLS) {
            Due.same(name + ": " + call, got, want);
        }
    }

    /** Mostly a number that there is; now and then one at an edge or beyond it. */
    private int number(int end) {
        if (wide && random.nextInt(3) == 0) {
            int[] edges = {-1, -2, end, end + 1, 999, 1000, 9999, 10000, 100000, 100001,
                Integer.MAX_VALUE, Integer.MIN_VALUE};
            return edges[random.nextInt(edges.length)];
        }
        return end <= 0 ? 0 : random.nextInt(end);
    }

    private int under() {
        return random.nextInt(4) == 0 ? -1 : number(divisions);
    }

    private void call() {
        int kind = random.nextInt(100);
        if (kind < 14 + 6 * weight) {
            build();
        } else if (kind < 60) {
            alter();
        } else {
            ask();
        }
    }

    private void build() {
        int map = number(maps);
        int under = random.nextInt(3) == 0 ? -1 : number(divisions);
        int order = number(orders);
        int label = wide ? number(10000) : random.nextInt(random.nextBoolean() ? 3 : 10000);
        int got = x.division(map, under, order, label);
        due("division(" + map + ", " + under + ", " + order + ", " + label + ")", got,
            m.division(map, under, order, label));
        if (got >= 0) {
            divisions++;
            repeatOften(got);
        }
    }

    /** In some runs most new ones repeat another one, so that readings grow past their 1000th. */
    private void repeatOften(int d) {
        if (repeating && random.nextInt(3) > 0) {
            int other = number(divisions);
            due("repeat(" + d + ", " + other + ")", x.repeat(d, other), m.repeat(d, other));
        }
    }

    private void alter() {
        int d = number(divisions);
        switch (random.nextInt(wide ? 5 : 4)) {
            case 0: {
                int f = number(files);
                int from = number(places);
                int to = random.nextInt(8) == 0 ? number(places) : from + 1 + number(6);
                due("link(" + d + ", " + f + ", " + from + ", " + to + ")", x.link(d, f, from, to),
                    m.link(d, f, from, to));
                break;
            }
            case 1: {
                int other = number(divisions);
                due("repeat(" + d + ", " + other + ")", x.repeat(d, other), m.repeat(d, other));
                break;
            }
            case 2: {
                int u = under();
                due("move(" + d + ", " + u + ")", x.move(d, u), m.move(d, u));
                break;
            }
            case 3: {
                int f = number(files);
                int size = number(places);
                due("size(" + f + ", " + size + ")", x.size(f, size), m.size(f, size));
                break;
            }
            default: {
                int size = number(places) + 100000;
                due("file(" + size + ")", x.file(size), m.file(size));
                due("map(2)", x.map(2), m.map(2));
                break;
            }
        }
    }

    private void ask() {
        int map = number(maps);
        int i = number(20);
        switch (random.nextInt(9)) {
            case 0 -> due("order(" + map + ", " + i + ")", x.order(map, i), m.order(map, i));
            case 1 -> due("read(" + map + ")", x.read(map), m.read(map));
            case 2 -> steps();
            case 3 -> due("check(" + map + ")", x.check(map), m.check(map));
            case 4 -> faults();
            case 5 -> due("print(" + map + ")", x.print(map), m.print(map));
            case 6 -> signs();
            case 7 -> {
                int other = number(maps);
                due("differ(" + map + ", " + other + ")", x.differ(map, other), m.differ(map, other));
            }
            default -> {
                int d = number(divisions);
                int what = number(7);
                due("about(" + d + ", " + what + ")", x.about(d, what), m.about(d, what));
            }
        }
    }

    private void steps() {
        int i = number(random.nextBoolean() ? 20 : 1200);
        for (int what = -1; what < 6; what++) {
            due("step(" + i + ", " + what + ")", x.step(i, what), m.step(i, what));
        }
    }

    private void faults() {
        int i = number(30);
        for (int what = -1; what < 3; what++) {
            int got;
            try {
                got = x.fault(i, what);
            } catch (IndexOutOfBoundsException e) {
                got = Integer.MIN_VALUE;
            }
            due("fault(" + i + ", " + what + ")", got, m.fault(i, what));
        }
    }

    private void signs() {
        int first = number(60) - 1;
        for (int i = first; i < first + 6; i++) {
            due("at(" + i + ")", x.at(i), m.at(i));
        }
    }
}
