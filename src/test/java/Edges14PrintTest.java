/** Promise 14: a map is PRINTED: how many signs; NONE. */
public final class Edges14PrintTest extends Edges {
    public static void main(String[] args) {
        noSuchMap();
        emptyMap();
        labelsOfEachLength();
        signsOfItsDepth();
        equalsIfItRepeats();
        inItsOrder();
        ofThatMapAlone();
        deepest();
        theLongest();
        refusedChangesNothing();
        Due.end();
    }

    private static void noSuchMap() {
        for (int map : NO_FILE_OR_MAP) {
            new Run(14, "NONE for a map that is not there").maps(0, 1, 0).print(map, NONE);
        }
    }

    private static void emptyMap() {
        new Run(14, "an empty map is no signs").maps(0).print(0, 0).at(0, NONE);
    }

    private static void labelsOfEachLength() {
        int[] labels = {0, 1, 9, 10, 11, 99, 100, 101, 110, 999, 1000, 1001, 1010, 1100, 5070, 9999};
        for (int label : labels) {
            new Run(14, "a LABEL in digits").maps(0).division(0, -1, 0, label, 0)
                .printed(0, label + "\n");
            new Run(14, "a LABEL in digits, then =").maps(0).division(0, -1, 1, 5, 0)
                .division(0, -1, 0, label, 1).repeat(1, 0, 1).printed(0, label + "=\n5\n");
        }
    }

    private static void signsOfItsDepth() {
        new Run(14, "a sign 32 for each division that it is under").maps(0)
            .tree(0, 0, -1, 0, 1, 2, 0, -1).printed(0, "0\n 1\n  2\n   3\n 4\n5\n").move(1, 4, 1)
            .printed(0, "0\n 4\n  1\n   2\n    3\n5\n").move(1, -1, 1)
            .printed(0, "0\n 4\n1\n 2\n  3\n5\n");
    }

    private static void equalsIfItRepeats() {
        new Run(14, "= if it repeats another one").maps(0).tree(0, 0, -1, 0, -1)
            .printed(0, "0\n 1\n2\n").repeat(2, 0, 1).printed(0, "0\n 1\n2=\n").move(2, -1, 1)
            .printed(0, "0\n 1\n2=\n");
        new Run(14, "= also of one under another one, of which it is the last").maps(0)
            .tree(0, 0, -1, -1, 1).repeat(2, 0, 1).printed(0, "0\n1\n 2=\n");
        new Run(14, "links are not printed").maps(0).files(1).tree(0, 0, -1).link(0, 0, 0, 1, 1)
            .printed(0, "0\n");
    }

    private static void inItsOrder() {
        new Run(14, "a map in its ORDER").maps(0).division(0, -1, 9, 1, 0).division(0, -1, 3, 2, 1)
            .division(0, 0, 5, 3, 2).division(0, 0, 5, 4, 3).division(0, 0, 1, 5, 4)
            .printed(0, "2\n1\n 5\n 3\n 4\n");
    }

    private static void ofThatMapAlone() {
        new Run(14, "the divisions of that map alone").maps(0, 1, 0).tree(0, 0, -1).tree(1, 1, -1)
            .printed(0, "0\n").printed(1, "1\n").printed(2, "");
    }

    private static void deepest() {
        Run run = new Run(14, "one under 119 others").maps(0);
        for (int n = 0; n < 120; n++) {
            run.division(0, n - 1, 0, 9, n);
        }
        int signs = 119 * 120 / 2 + 120 * 2;
        run.print(0, signs).at(signs - 1, 10).at(signs - 2, '9').at(signs - 3, 32)
            .at(signs - 2 - 119, 32).at(signs - 3 - 119, 10).at(signs, NONE);
    }

    /** Then the last one beside the one before it: a sign 32 less, and a = more. */
    private static void theLongest() {
        Run run = new Run(14, "as many signs as there can be").maps(0);
        for (int n = 0; n < 120; n++) {
            run.division(0, n - 1, 0, 9999, n);
        }
        int signs = 119 * 120 / 2 + 120 * 5;
        run.print(0, signs).at(signs - 1, 10).at(signs, NONE);
        run.move(119, 117, 1).repeat(119, 118, 1).print(0, signs).at(signs - 1, 10)
            .at(signs - 2, '=').at(signs - 3, '9').at(signs, NONE);
    }

    private static void refusedChangesNothing() {
        Run.nothingHappens(14, "nothing happens by NONE", Edges::filled, r -> r.print(3, NONE));
        Run.nothingHappens(14, "nothing happens by NONE", Edges::filled, r -> r.print(-1, NONE));
    }
}
