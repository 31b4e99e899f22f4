/** Promise 9: THE ORDER of a map: the i-th division, from 0 on; NONE. */
public final class Edges09OrderTest extends Edges {
    public static void main(String[] args) {
        noSuchMap();
        emptyMap();
        belowTheFirst();
        behindTheLast();
        fromTheTop();
        byTheirOrder();
        thenByTheirNumbers();
        ofThatMapAlone();
        repeatedOnesOnce();
        deepest();
        behindTheDeepest();
        widest();
        refusedChangesNothing();
        Due.end();
    }

    private static void noSuchMap() {
        for (int map : NO_FILE_OR_MAP) {
            new Run(9, "NONE for a map that is not there").maps(0, 1, 0).tree(0, 0, -1)
                .order(map, 0, NONE);
        }
    }

    private static void emptyMap() {
        new Run(9, "an empty map has none").maps(0).order(0, 0, NONE).order(0, -1, NONE)
            .order(0, 1, NONE);
        new Run(9, "also beside one that is not empty").maps(0, 0).tree(0, 0, -1).order(1, 0, NONE);
    }

    private static void belowTheFirst() {
        new Run(9, "none before the 0th").maps(0).row(0, -1, 0, 3).order(0, -1, NONE)
            .order(0, -2, NONE).order(0, MIN, NONE);
    }

    private static void behindTheLast() {
        new Run(9, "none behind the last").maps(0).row(0, -1, 0, 3).order(0, 3, 3)
            .order(0, 4, NONE).order(0, 119, NONE).order(0, 120, NONE).order(0, MAX, NONE);
    }

    private static void fromTheTop() {
        new Run(9, "each is followed by those under it").maps(0).tree(0, 0, -1, -1, 0, 2, 0, 1)
            .orders(0, 0, 2, 3, 4, 1, 5);
    }

    private static void byTheirOrder() {
        new Run(9, "at the top by their ORDER").maps(0).division(0, -1, 999, 0, 0)
            .division(0, -1, 0, 0, 1).division(0, -1, 998, 0, 2).division(0, -1, 1, 0, 3)
            .orders(0, 1, 3, 2, 0);
        new Run(9, "under one by their ORDER").maps(0).division(0, -1, 0, 0, 0)
            .division(0, 0, 999, 0, 1).division(0, 0, 0, 0, 2).division(0, 0, 500, 0, 3)
            .orders(0, 0, 2, 3, 1);
        new Run(9, "whatever their LABEL").maps(0).division(0, -1, 1, 9, 0)
            .division(0, -1, 0, 9999, 1).division(0, -1, 2, 0, 2).orders(0, 1, 0, 2);
        new Run(9, "the ORDER of one above counts before that of one below").maps(0)
            .division(0, -1, 5, 0, 0).division(0, 0, 0, 0, 1).division(0, -1, 4, 0, 2)
            .division(0, 2, 999, 0, 3).orders(0, 2, 3, 0, 1);
    }

    private static void thenByTheirNumbers() {
        new Run(9, "of the same ORDER by their numbers").maps(0).division(0, -1, 7, 3, 0)
            .division(0, -1, 7, 2, 1).division(0, -1, 7, 1, 2).orders(0, 0, 1, 2);
        new Run(9, "not by when they came there").maps(0).division(0, -1, 7, 0, 0)
            .division(0, -1, 7, 0, 1).division(0, -1, 7, 0, 2).move(0, 2, 1).move(0, -1, 1)
            .orders(0, 0, 1, 2).move(1, 0, 1).move(1, -1, 1).orders(0, 0, 1, 2);
    }

    private static void ofThatMapAlone() {
        new Run(9, "the divisions of that map alone").maps(0, 1).tree(0, 0, -1).tree(1, 1, -1)
            .tree(0, 2, 0).tree(1, 3, 1).orders(0, 0, 2).orders(1, 1, 3);
    }

    private static void repeatedOnesOnce() {
        new Run(9, "what is repeated stands in it once").maps(0).tree(0, 0, -1, 0, -1)
            .repeat(2, 0, 1).orders(0, 0, 1, 2);
    }

    private static void deepest() {
        Run run = new Run(9, "120 under one another").maps(0);
        for (int n = 0; n < 120; n++) {
            run.division(0, n - 1, 999 - n, 0, n);
        }
        run.order(0, 0, 0).order(0, 60, 60).order(0, 119, 119).order(0, 120, NONE);
    }

    private static void behindTheDeepest() {
        Run run = new Run(9, "behind 119 under one another one at the top").maps(0);
        for (int n = 0; n < 119; n++) {
            run.division(0, n - 1, 0, 0, n);
        }
        run.division(0, -1, 1, 0, 119).order(0, 118, 118).order(0, 119, 119).order(0, 120, NONE);
    }

    private static void widest() {
        Run run = new Run(9, "120 beside one another, the last one first").maps(0);
        for (int n = 0; n < 120; n++) {
            run.division(0, -1, 119 - n, 0, n);
        }
        run.order(0, 0, 119).order(0, 60, 59).order(0, 119, 0).order(0, 120, NONE);
    }

    private static void refusedChangesNothing() {
        Run.nothingHappens(9, "nothing happens by NONE", Edges::filled, r -> r.order(3, 0, NONE));
        Run.nothingHappens(9, "nothing happens by NONE", Edges::filled, r -> r.order(0, 6, NONE));
    }
}
