/** Promise 4: a map more: its number. RANGE, FULL. */
public final class Edges04MapTest extends Edges {
    public static void main(String[] args) {
        kindsThatCantBe();
        kinds();
        numbersUpTo4();
        full();
        rangeBeforeFull();
        refusedTakesNoNumber();
        refusedChangesNothing();
        Due.end();
    }

    private static void kindsThatCantBe() {
        new Run(4, "a KIND below 0 is RANGE").map(-1, RANGE).map(MIN, RANGE);
        new Run(4, "a KIND above 1 is RANGE").map(2, RANGE).map(MAX, RANGE);
    }

    private static void kinds() {
        new Run(4, "0 is PHYSICAL: its files are checked").files(1).maps(0).faults(0, 5, 0);
        new Run(4, "1 is LOGICAL: its files are not").files(1).maps(1).faults(0);
    }

    private static Run five(Run run) {
        return run.maps(0, 1, 0, 1, 1);
    }

    private static void numbersUpTo4() {
        Run run = five(new Run(4, "maps are 0 .. 4"));
        for (int n = 0; n < 5; n++) {
            run.division(n, -1, 0, 0, n).order(n, 0, n).order(n, 1, NONE);
        }
        run.division(5, -1, 0, 0, NONE).print(5, NONE);
    }

    private static void full() {
        five(new Run(4, "the 6th is FULL")).map(0, FULL).map(1, FULL);
    }

    private static void rangeBeforeFull() {
        five(new Run(4, "RANGE comes before FULL")).map(-1, RANGE).map(2, RANGE);
    }

    private static void refusedTakesNoNumber() {
        new Run(4, "a refused map takes no number").map(-1, RANGE).map(2, RANGE).map(1, 0)
            .map(2, RANGE).map(0, 1).print(2, NONE);
        five(new Run(4, "a map too many takes no number")).map(0, FULL).print(5, NONE).print(4, 0);
    }

    private static void refusedChangesNothing() {
        Run.nothingHappens(4, "nothing happens by RANGE", Edges::filled, r -> r.map(2, RANGE));
        Run.nothingHappens(4, "nothing happens by RANGE", Edges::filled, r -> r.map(-1, RANGE));
        Run.nothingHappens(4, "nothing happens by FULL",
            r -> r.with(Edges::few).map(1, 1).map(0, 2).map(1, 3).map(0, 4), r -> r.map(0, FULL));
    }
}
