/** Promise 2: a file more: its number. RANGE, FULL. */
public final class Edges02FileTest extends Edges {
    public static void main(String[] args) {
        sizeTooSmall();
        sizeTooLarge();
        sizesAtTheEnds();
        numbersUpTo29();
        full();
        rangeBeforeFull();
        refusedTakesNoNumber();
        rangeChangesNothing();
        fullChangesNothing();
        Due.end();
    }

    private static void sizeTooSmall() {
        new Run(2, "a SIZE below 0 is RANGE").file(-1, RANGE).file(-100000, RANGE).file(MIN, RANGE);
    }

    private static void sizeTooLarge() {
        new Run(2, "a SIZE above 100000 is RANGE").file(100001, RANGE).file(MAX, RANGE);
    }

    private static void sizesAtTheEnds() {
        new Run(2, "a SIZE may be 0").file(0, 0).size(0, 5, 0);
        new Run(2, "a SIZE may be 100000").file(100000, 0).size(0, 5, 100000);
        new Run(2, "a SIZE may be 1 and 99999").files(1, 99999).size(0, 5, 1).size(1, 5, 99999);
    }

    private static Run thirty(Run run) {
        for (int n = 0; n < 30; n++) {
            run.file(n, n);
        }
        return run;
    }

    private static void numbersUpTo29() {
        Run run = thirty(new Run(2, "files are 0 .. 29"));
        for (int n = 0; n < 30; n++) {
            run.size(n, 77, n);
        }
    }

    private static void full() {
        thirty(new Run(2, "the 31st is FULL")).file(0, FULL).file(100000, FULL).file(5, FULL);
    }

    private static void rangeBeforeFull() {
        thirty(new Run(2, "RANGE comes before FULL")).file(-1, RANGE).file(100001, RANGE);
    }

    private static void refusedTakesNoNumber() {
        new Run(2, "a refused file takes no number").file(-1, RANGE).file(100001, RANGE).file(4, 0)
            .file(-1, RANGE).file(5, 1).size(2, 1, NONE);
        thirty(new Run(2, "a file too many takes no number")).file(4, FULL).size(30, 1, NONE);
    }

    private static void rangeChangesNothing() {
        Run.nothingHappens(2, "nothing happens by RANGE", Edges::filled, r -> r.file(-1, RANGE));
        Run.nothingHappens(2, "nothing happens by RANGE", Edges::filled, r -> r.file(100001, RANGE));
    }

    private static void fullChangesNothing() {
        Run.nothingHappens(2, "nothing happens by FULL", Edges02FileTest::fewAndThirty,
            r -> r.file(6, FULL));
    }

    private static void fewAndThirty(Run run) {
        few(run);
        for (int n = 1; n < 30; n++) {
            run.file(n, n);
        }
    }
}
