/** Promise 12: a map is checked: how many FAULTS; NONE. */
public final class Edges12CheckTest extends Edges {
    public static void main(String[] args) {
        noSuchMap();
        emptyMap();
        nothingInIt();
        sameOrder();
        sameOrderUnderTheSame();
        sameOrderByNumbers();
        sameOrderOfTheLastOfMany();
        beyondTheSize();
        beyondOnceForADivision();
        byDivisionsNumbers();
        ofThatMapAlone();
        logicalMapsToo();
        inTwoSteps();
        inTwoStepsOnceForAFile();
        inTwoStepsByRepeating();
        behindTheSizeIsNoPlace();
        inNone();
        inNoneOnceForAFile();
        inNoneOfSizeZero();
        inNoneByRepeating();
        byFileNumbers();
        onlyOfPhysicalMaps();
        manyLinksOfAFile();
        behindThe1000th();
        theMost();
        asItIsNow();
        refusedChangesNothing();
        Due.end();
    }

    private static Run logical(String sentence) {
        return new Run(12, sentence).maps(1).files(10);
    }

    /** A physical map of one file, 10 places long, and a division. */
    private static Run physical(String sentence) {
        return new Run(12, sentence).maps(0).files(10).tree(0, 0, -1);
    }

    private static void noSuchMap() {
        for (int map : NO_FILE_OR_MAP) {
            new Run(12, "NONE for a map that is not there").maps(0, 1, 0).check(map, NONE);
        }
    }

    private static void emptyMap() {
        logical("an empty logical map has no FAULTS").faults(0);
        new Run(12, "an empty physical map without files has none").maps(0).faults(0);
        new Run(12, "an empty physical map covers no file").maps(0).files(1, 0, 100000)
            .faults(0, 5, 0, 5, 2);
    }

    private static void nothingInIt() {
        logical("1: no links, nothing under it, repeats none").tree(0, 0, -1).faults(0, 1, 0);
        logical("1: not if it has a link").tree(0, 0, -1).link(0, 0, 0, 1, 1).faults(0);
        logical("1: not if one is under it, which may have it").tree(0, 0, -1, 0).faults(0, 1, 1);
        logical("1: not if it repeats one, which may have it").tree(0, 0, -1, -1).repeat(1, 0, 1)
            .faults(0, 1, 0);
        logical("1: again when what was under it has moved away").tree(0, 0, -1, 0)
            .move(1, -1, 1).faults(0, 1, 0, 1, 1);
        logical("1: of each division").tree(0, 0, -1, -1, -1).faults(0, 1, 0, 1, 1, 1, 2);
    }

    private static Run linked(String sentence, int... ordersAtTheTop) {
        Run run = logical(sentence);
        for (int n = 0; n < ordersAtTheTop.length; n++) {
            run.division(0, -1, ordersAtTheTop[n], 0, n).link(n, 0, 0, 1, 1);
        }
        return run;
    }

    private static void sameOrder() {
        linked("2: both at the top", 5, 5).faults(0, 2, 1);
        linked("2: an ORDER of 0", 0, 0).faults(0, 2, 1);
        linked("2: an ORDER of 999", 999, 999).faults(0, 2, 1);
        linked("2: not of the next ORDER", 5, 6, 4).faults(0);
        linked("2: of all but the lowest", 5, 5, 5, 5).faults(0, 2, 1, 2, 2, 2, 3);
        linked("2: with others between", 5, 7, 1, 5, 7).faults(0, 2, 3, 2, 4);
    }

    private static void sameOrderUnderTheSame() {
        linked("2: both under the same", 1, 5, 5).move(1, 0, 1).move(2, 0, 1).faults(0, 2, 2);
        linked("2: not one under the other", 5, 5).move(1, 0, 1).faults(0);
        linked("2: not under others", 1, 2, 5, 5).move(2, 0, 1).move(3, 1, 1).faults(0);
        linked("2: not one at the top and one under another one", 1, 5, 5).move(2, 0, 1).faults(0);
        new Run(12, "2: not at the top of another map").maps(1, 1).files(9).division(0, -1, 5, 0, 0)
            .division(1, -1, 5, 0, 1).link(0, 0, 0, 1, 1).link(1, 0, 0, 1, 1).faults(0).faults(1);
    }

    private static void sameOrderByNumbers() {
        linked("2: of the higher number, though the lower came there later", 5, 1, 5).move(0, 1, 1)
            .faults(0).move(2, 1, 1).faults(0, 2, 2).move(0, -1, 1).faults(0).move(0, 1, 1)
            .faults(0, 2, 2);
    }

    private static void sameOrderOfTheLastOfMany() {
        Run run = new Run(12, "2: of the last of 120").maps(1).row(0, -1, 0, 118)
            .division(0, -1, 118, 0, 119);
        run.check(0, 121).fault(119, 0, 1).fault(119, 1, 119).fault(120, 0, 2).fault(120, 1, 119);
    }

    private static void beyondTheSize() {
        logical("3: a link to the SIZE is not beyond it").tree(0, 0, -1).link(0, 0, 9, 10, 1)
            .faults(0);
        logical("3: a link to one place more is").tree(0, 0, -1).link(0, 0, 9, 11, 1)
            .faults(0, 3, 0);
        logical("3: a link from the SIZE on is").tree(0, 0, -1).link(0, 0, 10, 11, 1)
            .faults(0, 3, 0);
        new Run(12, "3: of a file of SIZE 0 each one is").maps(1).files(0).tree(0, 0, -1)
            .link(0, 0, 0, 1, 1).faults(0, 3, 0);
        new Run(12, "3: of a file of SIZE 100000 none is").maps(1).files(100000).tree(0, 0, -1)
            .link(0, 0, 0, 100000, 1).faults(0).size(0, 99999, 100000).faults(0, 3, 0);
        new Run(12, "3: by the SIZE of its own file").maps(1).files(5, 50).tree(0, 0, -1, -1)
            .link(0, 0, 0, 5, 1).link(1, 1, 0, 50, 1).faults(0).size(0, 4, 5).faults(0, 3, 0);
    }

    private static void beyondOnceForADivision() {
        logical("3: once for a division").tree(0, 0, -1, -1).link(0, 0, 0, 11, 1)
            .link(0, 0, 0, 12, 2).link(0, 0, 20, 30, 3).link(1, 0, 0, 11, 1)
            .faults(0, 3, 0, 3, 1);
        logical("3: by its fifth link alone").tree(0, 0, -1).link(0, 0, 0, 1, 1).link(0, 0, 0, 2, 2)
            .link(0, 0, 0, 3, 3).link(0, 0, 0, 10, 4).faults(0).link(0, 0, 0, 11, 5)
            .faults(0, 3, 0);
        logical("3: by its first link alone").tree(0, 0, -1).link(0, 0, 0, 11, 1)
            .link(0, 0, 0, 2, 2).faults(0, 3, 0);
        logical("3: not of one that repeats it").tree(0, 0, -1, -1).link(0, 0, 0, 11, 1)
            .repeat(1, 0, 1).faults(0, 3, 0);
    }

    private static void byDivisionsNumbers() {
        logical("by the division's numbers, not by THE ORDER").division(0, -1, 9, 0, 0)
            .division(0, -1, 5, 0, 1).division(0, 0, 0, 0, 2).division(0, -1, 1, 0, 3)
            .faults(0, 1, 1, 1, 2, 1, 3);
        logical("of one division 1 before 2").division(0, -1, 5, 0, 0).division(0, -1, 5, 0, 1)
            .faults(0, 1, 0, 1, 1, 2, 1);
        logical("of one division 2 before 3").division(0, -1, 5, 0, 0).division(0, -1, 5, 0, 1)
            .link(0, 0, 0, 11, 1).link(1, 0, 0, 11, 1).faults(0, 3, 0, 2, 1, 3, 1);
    }

    private static void ofThatMapAlone() {
        new Run(12, "the divisions of that map alone").maps(1, 1).files(1).tree(0, 0, -1)
            .tree(1, 1, -1, -1).link(1, 0, 0, 2, 1).faults(0, 1, 0).faults(1, 3, 1, 1, 2);
    }

    private static void logicalMapsToo() {
        logical("1, 2 and 3 of a logical map").division(0, -1, 5, 0, 0).division(0, -1, 5, 0, 1)
            .link(1, 0, 0, 11, 1).faults(0, 1, 0, 2, 1, 3, 1);
        new Run(12, "1, 2 and 3 of a physical map").maps(0).files(0).division(0, -1, 5, 0, 0)
            .division(0, -1, 5, 0, 1).link(1, 0, 0, 11, 1).faults(0, 1, 0, 2, 1, 3, 1);
    }

    private static void inTwoSteps() {
        physical("4: not side by side").link(0, 0, 0, 5, 1).link(0, 0, 5, 10, 2).faults(0);
        physical("4: one place in two").link(0, 0, 0, 6, 1).link(0, 0, 5, 10, 2).faults(0, 4, 0);
        physical("4: the first place").link(0, 0, 0, 10, 1).link(0, 0, 0, 1, 2).faults(0, 4, 0);
        physical("4: the last place").link(0, 0, 0, 10, 1).link(0, 0, 9, 10, 2).faults(0, 4, 0);
        physical("4: one within the other").link(0, 0, 4, 5, 1).link(0, 0, 0, 10, 2)
            .faults(0, 4, 0);
        physical("4: the same twice").link(0, 0, 0, 10, 1).link(0, 0, 0, 10, 2).faults(0, 4, 0);
        physical("4: of two divisions").tree(0, 1, -1).link(0, 0, 0, 6, 1).link(1, 0, 5, 10, 1)
            .faults(0, 4, 0);
        physical("4: not the same place of two files").file(10, 1).link(0, 0, 0, 10, 1)
            .link(0, 1, 0, 10, 2).faults(0);
        physical("4: not where one ends and the next begins, but a place before").link(0, 0, 0, 9, 1)
            .link(0, 0, 9, 10, 2).faults(0).link(0, 0, 8, 9, 3).faults(0, 4, 0);
        new Run(12, "4: place 99999").maps(0).files(100000).tree(0, 0, -1)
            .link(0, 0, 0, 100000, 1).faults(0).link(0, 0, 99999, 100000, 2).faults(0, 4, 0);
    }

    private static void inTwoStepsOnceForAFile() {
        physical("4: once for a file").link(0, 0, 0, 10, 1).link(0, 0, 0, 10, 2)
            .link(0, 0, 0, 10, 3).link(0, 0, 2, 3, 4).link(0, 0, 7, 9, 5).faults(0, 4, 0);
        physical("4: for each file").file(1, 1).file(1, 2).link(0, 0, 0, 10, 1)
            .link(0, 0, 0, 10, 2).link(0, 2, 0, 1, 3).link(0, 2, 0, 1, 4).link(0, 1, 0, 1, 5)
            .faults(0, 4, 0, 4, 2);
    }

    private static void inTwoStepsByRepeating() {
        physical("4: a STEP that comes again by repeating").tree(0, 1, -1).link(0, 0, 0, 10, 1)
            .faults(0, 1, 1).repeat(1, 0, 1).faults(0, 4, 0);
        physical("4: also of one under the repeated one").tree(0, 1, 0, -1).link(1, 0, 0, 10, 1)
            .repeat(2, 0, 1).faults(0, 4, 0);
        physical("4: not of one beside the repeated one").tree(0, 1, -1, -1).link(0, 0, 0, 10, 1)
            .repeat(2, 1, 1).faults(0, 1, 1);
    }

    private static void behindTheSizeIsNoPlace() {
        physical("4: behind the SIZE is no place of the file").link(0, 0, 0, 10, 1)
            .link(0, 0, 10, 20, 2).link(0, 0, 11, 15, 3).faults(0, 3, 0).size(0, 11, 10)
            .faults(0, 3, 0).size(0, 12, 11).faults(0, 3, 0, 4, 0);
        physical("4: two that meet behind the SIZE alone").link(0, 0, 0, 12, 1)
            .link(0, 0, 10, 15, 2).faults(0, 3, 0).size(0, 11, 10).faults(0, 3, 0, 4, 0);
        new Run(12, "4: a file of SIZE 0 has no place").maps(0).files(0).tree(0, 0, -1)
            .link(0, 0, 0, 1, 1).link(0, 0, 0, 1, 2).faults(0, 3, 0).size(0, 1, 0)
            .faults(0, 4, 0);
    }

    private static void inNone() {
        physical("5: no link at all").tree(0, 1, 0).faults(0, 1, 1, 5, 0);
        physical("5: the first place").link(0, 0, 1, 10, 1).faults(0, 5, 0).link(0, 0, 0, 1, 2)
            .faults(0);
        physical("5: the last place").link(0, 0, 0, 9, 1).faults(0, 5, 0).link(0, 0, 9, 10, 2)
            .faults(0);
        physical("5: a place between").link(0, 0, 6, 10, 1).link(0, 0, 0, 5, 2).faults(0, 5, 0)
            .link(0, 0, 5, 6, 3).faults(0);
        physical("5: not where a link goes beyond the SIZE").link(0, 0, 0, 20, 1).faults(0, 3, 0);
        physical("5: not behind a short one that is within a long one").link(0, 0, 0, 10, 1)
            .link(0, 0, 1, 2, 2).faults(0, 4, 0);
        physical("5: what begins behind the SIZE covers nothing").link(0, 0, 10, 20, 1)
            .faults(0, 3, 0, 5, 0);
        new Run(12, "5: place 99999").maps(0).files(100000).tree(0, 0, -1).link(0, 0, 0, 99999, 1)
            .faults(0, 5, 0).link(0, 0, 99999, 100000, 2).faults(0);
        new Run(12, "5: not of another map's links").maps(0, 0, 1).files(1).tree(1, 0, -1)
            .tree(2, 1, -1).link(0, 0, 0, 1, 1).link(1, 0, 0, 1, 1).faults(0, 5, 0).faults(1);
    }

    private static void inNoneOnceForAFile() {
        physical("5: once for a file").link(0, 0, 1, 2, 1).link(0, 0, 3, 4, 2).link(0, 0, 5, 6, 3)
            .faults(0, 5, 0);
        physical("5: for each file").file(4, 1).file(100000, 2).link(0, 1, 0, 4, 1)
            .faults(0, 5, 0, 5, 2);
    }

    private static void inNoneOfSizeZero() {
        physical("5: a file of SIZE 0 has no place").link(0, 0, 0, 10, 1).file(0, 1).faults(0)
            .size(1, 1, 0).faults(0, 5, 1).size(1, 0, 1).faults(0);
    }

    private static void inNoneByRepeating() {
        physical("5: one that repeats covers nothing else").tree(0, 1, -1).link(0, 0, 0, 9, 1)
            .repeat(1, 0, 1).faults(0, 4, 0, 5, 0);
    }

    private static void byFileNumbers() {
        physical("by file numbers").file(10, 1).link(0, 1, 0, 2, 1).link(0, 1, 1, 3, 2)
            .link(0, 0, 4, 8, 3).link(0, 0, 5, 6, 4).faults(0, 4, 0, 5, 0, 4, 1, 5, 1);
        new Run(12, "behind those of all divisions").maps(0).files(5, 6)
            .tree(0, 0, -1, -1).link(0, 0, 0, 9, 1).faults(0, 3, 0, 1, 1, 5, 1);
        Run run = new Run(12, "to the 30th file").maps(0);
        for (int n = 0; n < 30; n++) {
            run.file(n == 29 ? 1 : 0, n);
        }
        run.faults(0, 5, 29).tree(0, 0, -1).link(0, 29, 0, 1, 1).link(0, 29, 0, 1, 2)
            .faults(0, 4, 29);
    }

    private static void onlyOfPhysicalMaps() {
        logical("4 and 5 not of a logical map").tree(0, 0, -1).link(0, 0, 0, 5, 1)
            .link(0, 0, 4, 6, 2).faults(0);
    }

    /** Place n is in the n-th of 400 links alone, until one more has the last place too. */
    private static void manyLinksOfAFile() {
        Run run = new Run(12, "4 and 5 where a file has 400 links").maps(0).files(401)
            .row(0, -1, 0, 80);
        for (int n = 0; n < 400; n++) {
            run.link(n / 5, 0, n, n + 1, n % 5 + 1);
        }
        run.faults(0, 1, 80, 5, 0).size(0, 400, 401).faults(0, 1, 80);
        run.link(80, 0, 399, 400, 1).faults(0, 4, 0);
    }

    /** 1 .. 8 are empty; what is not read any more is in no STEP. */
    private static void behindThe1000th() {
        new Run(12, "the 1000th division has its STEPS, the 1001st has none").maps(0).files(1, 1)
            .with(Edges::toThe1001st).link(108, 0, 0, 1, 1).link(109, 0, 0, 1, 1)
            .link(109, 1, 0, 1, 2)
            .faults(0, 1, 1, 1, 2, 1, 3, 1, 4, 1, 5, 1, 6, 1, 7, 1, 8, 5, 1);
        new Run(12, "the 1001st has FAULTS of its own").maps(0).files(1, 1)
            .with(Edges::toThe1001st).link(108, 0, 0, 1, 1).link(109, 1, 0, 2, 1)
            .check(0, 10).fault(8, 0, 3).fault(8, 1, 109).fault(9, 0, 5).fault(9, 1, 1);
    }

    /** 12 with five links each, two of each file, from its last place on: 108 + 119 + 12 + 60. */
    private static void theMost() {
        Run run = new Run(12, "as many FAULTS as there can be").maps(0);
        for (int n = 0; n < 30; n++) {
            run.file(2, n);
        }
        for (int n = 0; n < 120; n++) {
            run.division(0, -1, 7, 0, n);
        }
        for (int n = 0; n < 60; n++) {
            run.link(108 + n / 5, n / 2, 1, 3, n % 5 + 1);
        }
        run.check(0, 299).fault(0, 0, 1).fault(0, 1, 0).fault(1, 0, 1).fault(1, 1, 1)
            .fault(2, 0, 2).fault(2, 1, 1).fault(237, 0, 2).fault(237, 1, 119).fault(238, 0, 3)
            .fault(238, 1, 119).fault(239, 0, 4).fault(239, 1, 0).fault(240, 0, 5).fault(240, 1, 0)
            .fault(297, 0, 4).fault(298, 0, 5).fault(298, 1, 29).noFault(299, 0);
    }

    private static void asItIsNow() {
        physical("checked as it is now, though read before").link(0, 0, 0, 9, 1).read(0, 1)
            .link(0, 0, 9, 10, 2).faults(0).tree(0, 1, -1).faults(0, 1, 1);
    }

    private static void refusedChangesNothing() {
        Run.nothingHappens(12, "nothing happens by NONE", Edges::filled, r -> r.check(3, NONE));
        Run.nothingHappens(12, "nothing happens by NONE", Edges::filled, r -> r.check(-1, NONE));
    }
}
