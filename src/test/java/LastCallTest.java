/** 'What it is': every promise holds up to the 512th call; each call of the face is that one here. */
public final class LastCallTest extends Edges {
    private static final int LAST = 512;

    public static void main(String[] args) {
        makes();
        alters();
        tells();
        refuses();
        makesToTheLast();
        readsWhatIsMostAtTheLast();
        allOfOneKind();
        Due.end();
    }

    /** The state of Edges.filled, with all calls but the last one gone. */
    private static Run last(String sentence) {
        return new Run(0, "the 512th call: " + sentence).with(Edges::filled).waitFor(LAST);
    }

    private static void makes() {
        last("file").file(5, 3);
        last("map").map(1, 3);
        last("division").division(2, -1, 999, 9999, 9);
        last("link").link(8, 0, 0, 100000, 1);
    }

    private static void alters() {
        last("size").size(0, 3, 11);
        last("repeat").repeat(8, 0, STATE);
        new Run(0, "the 512th call: repeat").maps(0).row(0, -1, 0, 1).waitFor(LAST).repeat(1, 0, 1);
        last("move").move(8, -1, 1);
    }

    private static void tells() {
        last("order").order(0, 4, 7);
        last("read").read(0, 16);
        last("step").step(13, 4, 2);
        last("check").check(0, 7);
        last("fault").fault(6, 0, 5);
        last("print").print(0, 29);
        last("at").at(25, 10);
        last("differ").differ(0, 1, 6);
        last("about").about(0, 6, 4);
    }

    private static void refuses() {
        last("file").file(-1, RANGE);
        last("size").size(3, 0, NONE);
        last("map").map(2, RANGE);
        last("division").division(0, 3, 0, 0, STATE);
        last("link").link(2, 0, 0, 1, FULL);
        last("repeat").repeat(9, 0, NONE);
        last("move").move(0, 8, STATE);
        last("order").order(0, 6, NONE);
        last("read").read(3, NONE);
        last("step").step(14, 0, NONE);
        last("check").check(3, NONE);
        last("fault").noFault(7, 0);
        last("print").print(-1, NONE);
        last("at").at(26, NONE);
        last("differ").differ(0, 3, NONE);
        last("about").about(9, 0, NONE);
    }

    /** 1 map, 30 files, 120 divisions, then links until the calls are gone. */
    private static void makesToTheLast() {
        Run run = new Run(0, "something is made by each of the 512 calls").maps(0);
        for (int n = 0; n < 30; n++) {
            run.file(100000, n);
        }
        run.row(0, -1, 0, 119);
        for (int n = 0; n < LAST - 152; n++) {
            run.link(n / 5, n % 30, n, 100000 - n, n % 5 + 1);
        }
        run.read(0, 360);
    }

    private static void readsWhatIsMostAtTheLast() {
        Run run = new Run(0, "a long reading by the 512th call").maps(0).files(9).tree(0, 0, -1)
            .row(0, 0, 1, 49).row(0, -1, 50, 69);
        for (int n = 0; n < 250; n++) {
            run.link(n / 5, 0, 0, 9, n % 5 + 1);
        }
        for (int n = 50; n < 70; n++) {
            run.repeat(n, 0, 1);
        }
        // 50 + 18 * 51 = 968 are read before 68: it itself is the next, then come 31 of the 50
        run.waitFor(LAST).read(0, 250 * 19 + 5 * 31);
    }

    private static void allOfOneKind() {
        Run run = new Run(0, "511 times the same call").maps(1);
        for (int n = 1; n < LAST; n++) {
            run.read(0, 0);
        }
        run = new Run(0, "512 times a new file");
        for (int n = 0; n < LAST; n++) {
            run.file(n, n < 30 ? n : FULL);
        }
        run = new Run(0, "512 times a new map");
        for (int n = 0; n < LAST; n++) {
            run.map(n % 2, n < 5 ? n : FULL);
        }
        run = new Run(0, "511 times a new division").maps(0);
        for (int n = 0; n < LAST - 1; n++) {
            run.division(0, -1, 0, 0, n < 120 ? n : FULL);
        }
    }
}
