/** Promise 10: READING: how many STEPS a map has; NONE. */
public final class Edges10ReadTest extends Edges {
    public static void main(String[] args) {
        noSuchMap();
        emptyMap();
        noLinks();
        eachLinkIsAStep();
        inTheOrder();
        ofThatMapAlone();
        repeatedOnes();
        repeatedInTurn();
        the1000th();
        the1000thHasAllItsSteps();
        the1000thIsOneUnderARepeatedOne();
        the1000thRepeats();
        countedEachTimeInTurn();
        fromTheLongestTurnOn();
        eachReadingCountsAnew();
        theLongest();
        refusedChangesNothing();
        Due.end();
    }

    private static Run one(String sentence) {
        return new Run(10, sentence).maps(1).files(10);
    }

    private static void noSuchMap() {
        for (int map : NO_FILE_OR_MAP) {
            new Run(10, "NONE for a map that is not there").maps(0, 1, 0).read(map, NONE);
        }
    }

    private static void emptyMap() {
        one("an empty map has no STEPS").read(0, 0).step(0, 0, NONE);
    }

    private static void noLinks() {
        one("divisions without links have no STEPS").tree(0, 0, -1, 0, -1).repeat(2, 0, 1)
            .read(0, 0).step(0, 0, NONE);
    }

    private static void eachLinkIsAStep() {
        one("each link of a division is a STEP").tree(0, 0, -1).link(0, 0, 5, 6, 1).read(0, 1)
            .link(0, 0, 0, 9, 2).link(0, 0, 5, 6, 3).link(0, 0, 2, 3, 4).link(0, 0, 1, 2, 5)
            .read(0, 5).steps(2, 5, 0, 5, 2, 1).steps(3, 6, 9, 6, 3, 2);
    }

    private static void inTheOrder() {
        one("STEPS come in THE ORDER").division(0, -1, 9, 0, 0).division(0, -1, 3, 0, 1)
            .division(0, 0, 5, 0, 2).division(0, 0, 1, 0, 3).link(2, 0, 0, 1, 1).link(3, 0, 0, 1, 1)
            .link(0, 0, 0, 1, 1).link(1, 0, 0, 1, 1).read(0, 4).steps(0, 1, 0, 3, 2)
            .steps(4, 1, 0, 3, 2);
    }

    private static void ofThatMapAlone() {
        new Run(10, "STEPS of that map alone").maps(0, 1).files(5).tree(0, 0, -1).tree(1, 1, -1)
            .link(0, 0, 0, 1, 1).link(1, 0, 1, 2, 1).link(1, 0, 2, 3, 2).read(0, 1).steps(0, 0)
            .read(1, 2).steps(0, 1, 1);
    }

    private static void repeatedOnes() {
        one("where one repeats another one, its STEPS and those under it come").tree(0, 0, -1, 0, 1, -1)
            .link(0, 0, 0, 1, 1).link(1, 0, 1, 2, 1).link(2, 0, 2, 3, 1).repeat(3, 0, 1)
            .read(0, 6).steps(0, 0, 1, 2, 0, 1, 2).steps(4, 0, 1, 2, 3, 3, 3);
        one("not those beside it, nor those above").tree(0, 0, -1, 0, 0, -1).link(0, 0, 0, 1, 1)
            .link(1, 0, 1, 2, 1).link(2, 0, 2, 3, 1).repeat(3, 1, 1).read(0, 4)
            .steps(0, 0, 1, 2, 1);
        one("also before the repeated one itself").tree(0, 0, -1, -1, -1).link(2, 0, 0, 1, 1)
            .link(1, 0, 1, 2, 1).repeat(0, 2, 1).read(0, 3).steps(0, 2, 1, 2).steps(4, 0, 1, 2);
    }

    private static void repeatedInTurn() {
        one("and theirs, if they repeat others in turn").tree(0, 0, -1, -1, 1, -1)
            .link(0, 0, 0, 1, 1).link(1, 0, 1, 2, 1).repeat(2, 0, 1).repeat(3, 1, 1)
            .read(0, 5).steps(0, 0, 1, 0, 1, 0).steps(4, 0, 1, 2, 3, 3);
        one("one repeats one that repeats").tree(0, 0, -1, -1, -1, -1).link(0, 0, 0, 1, 1)
            .repeat(1, 0, 1).repeat(2, 1, 1).repeat(3, 2, 1).read(0, 4).steps(0, 0, 0, 0, 0)
            .steps(4, 0, 1, 2, 3);
    }

    private static void the1000th() {
        one("it ends behind the 1000th division").with(Edges::toThe1001st).link(108, 0, 0, 1, 1)
            .link(109, 0, 1, 2, 1).read(0, 1).steps(0, 108);
        one("the 1001st has its STEPS no more").with(Edges::toThe1001st).link(109, 0, 1, 2, 1)
            .read(0, 0).step(0, 0, NONE);
    }

    private static void the1000thHasAllItsSteps() {
        one("it ends behind the 1000th, not within it").with(Edges::toThe1001st)
            .link(108, 0, 0, 1, 1).link(108, 0, 1, 2, 2).link(108, 0, 2, 3, 3).link(108, 0, 3, 4, 4)
            .link(108, 0, 4, 5, 5).read(0, 5).steps(2, 0, 1, 2, 3, 4);
    }

    /** Five more behind 0 .. 8: the 995th is 107, then come 0 and 1 .. 4. */
    private static void the1000thIsOneUnderARepeatedOne() {
        Run run = one("it may end among those that are repeated").with(Edges::toThe1001st);
        for (int n = 110; n < 115; n++) {
            run.division(0, -1, 0, 0, n);
        }
        run.link(4, 0, 0, 1, 1).read(0, 100).step(99, 0, 4).step(99, 4, 107).step(100, 0, NONE);
        run.link(5, 0, 0, 1, 1).read(0, 199).step(198, 0, 4).step(198, 4, 107).step(199, 0, NONE);
        run.link(0, 0, 0, 1, 1).read(0, 299);
    }

    private static void the1000thRepeats() {
        one("it may end at one that repeats").with(Edges::toThe1001st).repeat(108, 0, 1)
            .link(0, 0, 0, 1, 1).read(0, 100).step(99, 4, 107).step(100, 0, NONE);
    }

    /** n is 1 + (n - 1) more: 1 + 2 + .. + 44 = 990, and 0 would be the 45th behind that. */
    private static void countedEachTimeInTurn() {
        Run run = one("those that are repeated in turn are counted each time").row(0, -1, 0, 119);
        run.link(0, 0, 0, 1, 1);
        for (int n = 1; n < 120; n++) {
            run.repeat(n, n - 1, 1);
        }
        run.read(0, 44).step(43, 4, 43).step(44, 0, NONE);
    }

    /** The last one stands first: 120 + 119 + .. + 113 = 932, and the ninth would need 112. */
    private static void fromTheLongestTurnOn() {
        Run run = one("one comes to another one by 119 turns");
        for (int n = 0; n < 120; n++) {
            run.division(0, -1, 119 - n, 0, n);
        }
        run.link(0, 0, 0, 1, 1);
        for (int n = 1; n < 120; n++) {
            run.repeat(n, n - 1, 1);
        }
        run.read(0, 8).steps(4, 119, 118, 117, 116, 115, 114, 113, 112);
    }

    private static void eachReadingCountsAnew() {
        new Run(10, "each reading counts anew").maps(0, 0).files(10).with(Edges::toThe1001st)
            .link(108, 0, 0, 1, 1).link(109, 0, 0, 1, 1).division(1, -1, 0, 0, 110)
            .link(110, 0, 0, 1, 1).read(0, 1).read(0, 1).read(1, 1).check(0, 9).read(0, 1);
    }

    /** 60 of 5 links each, then 16 that repeat them: 60 + 15 * 61 = 975, and 25 of the 16th. */
    private static void theLongest() {
        Run run = one("a long reading").tree(0, 0, -1).row(0, 0, 1, 59).row(0, -1, 60, 75);
        for (int n = 0; n < 60; n++) {
            for (int from = 0; from < 5; from++) {
                run.link(n, 0, from, 9, from + 1);
            }
        }
        for (int n = 60; n < 76; n++) {
            run.repeat(n, 0, 1);
        }
        run.read(0, 4920).wholeStep(4919, 23, 0, 4, 9, 75).step(4920, 0, NONE);
        run.wholeStep(4799, 59, 0, 4, 9, 74).wholeStep(4800, 0, 0, 0, 9, 75);
    }

    private static void refusedChangesNothing() {
        Run.nothingHappens(10, "nothing happens by NONE", Edges::filled, r -> r.read(3, NONE));
        Run.nothingHappens(10, "nothing happens by NONE", Edges::filled, r -> r.read(-1, NONE));
    }
}
