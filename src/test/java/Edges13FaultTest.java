/**
 * Promise 13: of the i-th FAULT of the latest check, from 0 on, what 0: which, 1: the division, or
 * file. IndexOutOfBoundsException if there is none such, or for another what.
 */
public final class Edges13FaultTest extends Edges {
    public static void main(String[] args) {
        beforeACheck();
        belowTheFirst();
        behindTheLast();
        anotherWhat();
        whatItTells();
        withoutFaults();
        fewerFaultsThanBefore();
        asItWasThen();
        theLatestCheck();
        behindARefusedCheck();
        readsAndPrintsAreNoCheck();
        refusedChangesNothing();
        Due.end();
    }

    /** 0 and 1 are empty, and of the same ORDER: three FAULTS. */
    private static Run three(String sentence) {
        return new Run(13, sentence).maps(1, 0).files(9).division(0, -1, 5, 0, 0)
            .division(0, -1, 5, 0, 1).check(0, 3);
    }

    private static void beforeACheck() {
        new Run(13, "it throws before a check").maps(0).files(1).tree(0, 0, -1).noFault(0, 0)
            .noFault(0, 1);
    }

    private static void belowTheFirst() {
        three("it throws before the 0th").noFault(-1, 0).noFault(-1, 1).noFault(MIN, 0);
    }

    private static void behindTheLast() {
        three("it throws behind the last").fault(2, 0, 2).noFault(3, 0).noFault(3, 1).noFault(4, 0)
            .noFault(299, 0).noFault(300, 0).noFault(MAX, 0).noFault(MAX, 1);
    }

    private static void anotherWhat() {
        three("it throws for another what").noFault(0, -1).noFault(0, 2).noFault(2, 2)
            .noFault(0, MIN).noFault(0, MAX).noFault(3, 2).noFault(-1, -1);
    }

    private static void whatItTells() {
        three("what 0 and 1, of a division").fault(0, 0, 1).fault(0, 1, 0).fault(1, 0, 1)
            .fault(1, 1, 1).fault(2, 0, 2).fault(2, 1, 1);
        three("what 0 and 1, of a file").file(9, 1).tree(1, 2, -1).link(2, 0, 0, 9, 1).check(1, 1)
            .fault(0, 0, 5).fault(0, 1, 1);
    }

    private static void withoutFaults() {
        new Run(13, "it throws behind a check without FAULTS").maps(1).check(0, 0).noFault(0, 0)
            .noFault(0, 1).noFault(-1, 0);
    }

    private static void fewerFaultsThanBefore() {
        three("it throws where an earlier check had one").link(1, 0, 0, 1, 1).check(0, 2)
            .noFault(2, 0).link(0, 0, 0, 1, 1).check(0, 1).stillFaults(2, 1);
    }

    private static void asItWasThen() {
        three("of the latest check, though all is mended").link(0, 0, 0, 1, 1).link(1, 0, 0, 1, 1)
            .move(1, 0, 1).stillFaults(1, 0, 1, 1, 2, 1).check(0, 0).noFault(0, 0);
        three("of the latest check, though there are more").tree(0, 2, -1, -1)
            .stillFaults(1, 0, 1, 1, 2, 1).check(0, 5);
    }

    private static void theLatestCheck() {
        three("of the map that was checked latest").faults(1, 5, 0).faults(0, 1, 0, 1, 1, 2, 1);
    }

    private static void behindARefusedCheck() {
        three("a refused check is none").check(2, NONE).check(-1, NONE).check(MAX, NONE)
            .stillFaults(1, 0, 1, 1, 2, 1);
    }

    private static void readsAndPrintsAreNoCheck() {
        three("nothing else is a check").read(1, 0).print(1, 0).differ(0, 1, 2).order(1, 0, NONE)
            .about(0, 4, 0).stillFaults(1, 0, 1, 1, 2, 1);
    }

    private static void refusedChangesNothing() {
        Run.nothingHappens(13, "nothing happens when it throws", Edges::filled,
            r -> r.noFault(7, 0));
        Run.nothingHappens(13, "nothing happens when it throws", Edges::filled,
            r -> r.noFault(0, 2));
    }
}
