/**
 * Promise 11: of the i-th STEP, from 0 on, of the map that was read latest, as it was then, what 0:
 * the division whose link it is, 1: the file, 2: from, 3: to, 4: the division at which it came (it
 * itself, or the outermost one that repeats). NONE for none such, or another what.
 */
public final class Edges11StepTest extends Edges {
    public static void main(String[] args) {
        belowTheFirst();
        behindTheLast();
        anotherWhat();
        whatItTells();
        itItself();
        theOutermostOneThatRepeats();
        asItWasThen();
        theLatestReading();
        anEmptyReading();
        behindARefusedReading();
        checksAndPrintsAreNoReading();
        refusedChangesNothing();
        Due.end();
    }

    /** 0 with 1 under it, and a link of each. */
    private static Run two(String sentence) {
        return new Run(11, sentence).maps(0, 1).files(50, 60).tree(0, 0, -1, 0).link(0, 0, 1, 2, 1)
            .link(1, 1, 3, 4, 1).read(0, 2);
    }

    private static void belowTheFirst() {
        two("NONE before the 0th").step(-1, 0, NONE).step(-1, 4, NONE).step(-2, 0, NONE)
            .step(MIN, 0, NONE);
    }

    private static void behindTheLast() {
        two("NONE behind the last").step(1, 0, 1).step(2, 0, NONE).step(2, 4, NONE)
            .step(3, 0, NONE).step(1000, 0, NONE).step(5000, 0, NONE).step(MAX, 0, NONE);
    }

    private static void anotherWhat() {
        two("NONE for another what").step(0, -1, NONE).step(0, 5, NONE).step(1, 6, NONE)
            .step(0, MIN, NONE).step(0, MAX, NONE).step(2, 5, NONE).step(-1, -1, NONE);
    }

    private static void whatItTells() {
        two("what 0 .. 4").wholeStep(0, 0, 0, 1, 2, 0).wholeStep(1, 1, 1, 3, 4, 1);
        new Run(11, "the ends of a place").maps(0).files(0).tree(0, 0, -1)
            .link(0, 0, 0, 100000, 1).read(0, 1).wholeStep(0, 0, 0, 0, 100000, 0);
        Run run = new Run(11, "the last numbers").maps(0);
        for (int n = 0; n < 30; n++) {
            run.file(n, n);
        }
        run.row(0, -1, 0, 119).link(118, 29, 99999, 100000, 1).repeat(119, 118, 1).read(0, 2)
            .wholeStep(0, 118, 29, 99999, 100000, 118).wholeStep(1, 118, 29, 99999, 100000, 119);
    }

    private static void itItself() {
        two("it itself, though it is under another one, and another one repeats it")
            .tree(0, 2, -1).repeat(2, 1, 1).read(0, 3).steps(4, 0, 1, 2);
    }

    /** 0; 1 with 2 = 0 under it; 3 = 1; 4 with 5 = 3 under it; 6 = 4. */
    private static void theOutermostOneThatRepeats() {
        new Run(11, "the outermost one that repeats").maps(1).files(9)
            .tree(0, 0, -1, -1, 1, -1, -1, 4, -1).link(0, 0, 0, 1, 1).repeat(2, 0, 1)
            .repeat(3, 1, 1).repeat(5, 3, 1).repeat(6, 4, 1).read(0, 5).steps(0, 0, 0, 0, 0, 0)
            .steps(4, 0, 2, 3, 5, 6);
        new Run(11, "behind one that repeats it is another one again").maps(1).files(9)
            .tree(0, 0, -1, -1, -1, -1).link(0, 0, 0, 1, 1).link(2, 0, 1, 2, 1).repeat(1, 0, 1)
            .repeat(3, 0, 1).read(0, 4).steps(4, 0, 1, 2, 3);
    }

    private static void asItWasThen() {
        two("as it was then: a link more").link(0, 0, 5, 6, 2).steps(0, 0, 1);
        two("as it was then: a division more").division(0, -1, 0, 0, 2).link(2, 0, 8, 9, 1)
            .steps(0, 0, 1);
        two("as it was then: one repeats").tree(0, 2, -1).repeat(2, 0, 1).steps(0, 0, 1);
        two("as it was then: one moved").division(0, -1, 0, 0, 2).move(0, 2, 1).move(1, -1, 1)
            .steps(0, 0, 1).steps(4, 0, 1);
        two("as it was then: the file's SIZE").size(0, 0, 50).size(1, 0, 60)
            .wholeStep(0, 0, 0, 1, 2, 0).wholeStep(1, 1, 1, 3, 4, 1);
        two("as it was then: a place before it").division(0, -1, 0, 0, 2).repeat(2, 1, 1)
            .steps(0, 0, 1).read(0, 3).steps(4, 0, 1, 2);
        two("as it was then: where it came").tree(0, 2, -1).repeat(2, 1, 1).read(0, 3)
            .tree(0, 3, -1, -1).move(2, 3, 1).repeat(4, 3, 1).steps(4, 0, 1, 2);
    }

    private static void theLatestReading() {
        two("of the map that was read latest").tree(1, 2, -1).link(2, 0, 7, 8, 1).read(1, 1)
            .steps(0, 2).read(0, 2).steps(0, 0, 1);
    }

    private static void anEmptyReading() {
        two("an empty map was read latest").read(1, 0).step(0, 0, NONE).step(1, 0, NONE);
    }

    private static void behindARefusedReading() {
        two("a refused reading is none").read(2, NONE).read(-1, NONE).read(MAX, NONE)
            .steps(0, 0, 1);
    }

    private static void checksAndPrintsAreNoReading() {
        two("a check is no reading").check(1, 0).steps(0, 0, 1).link(0, 0, 2, 3, 2).check(0, 2)
            .steps(0, 0, 1);
        two("nor is anything else").print(1, 0).differ(0, 1, 2).order(1, 0, NONE)
            .about(0, 4, 1).steps(0, 0, 1);
    }

    private static void refusedChangesNothing() {
        Run.nothingHappens(11, "nothing happens by NONE", Edges::filled, r -> r.step(14, 0, NONE));
        Run.nothingHappens(11, "nothing happens by NONE", Edges::filled, r -> r.step(0, 5, NONE));
    }
}
