/**
 * Promise 6: a link more of a division: how many it has. NONE; RANGE; STATE if it repeats another
 * one; FULL.
 */
public final class Edges06LinkTest extends Edges {
    public static void main(String[] args) {
        noSuchDivision();
        noSuchFile();
        fromTooSmall();
        toNotBehindFrom();
        toTooLarge();
        placesAtTheEnds();
        whateverTheSize();
        ofOneThatRepeats();
        ofOneThatIsRepeated();
        ofOneWithSomeUnderIt();
        atMostFive();
        fiveOfEach();
        theSameAgain();
        noneBeforeRange();
        noneBeforeState();
        noneBeforeFull();
        rangeBeforeState();
        rangeBeforeFull();
        refusedIsNoLink();
        refusedChangesNothing();
        Due.end();
    }

    private static Run one(String sentence) {
        return new Run(6, sentence).maps(1).files(10).tree(0, 0, -1);
    }

    private static void noSuchDivision() {
        for (int division : NO_DIVISION) {
            new Run(6, "NONE for a division that is not there").maps(0).files(1).row(0, -1, 0, 8)
                .link(division, 0, 0, 1, NONE);
        }
    }

    private static void noSuchFile() {
        for (int file : NO_FILE_OR_MAP) {
            new Run(6, "NONE for a file that is not there").maps(0).files(1, 1, 1).tree(0, 0, -1)
                .link(0, file, 0, 1, NONE);
        }
    }

    private static void fromTooSmall() {
        one("a place below 0 is RANGE").link(0, 0, -1, 1, RANGE).link(0, 0, -1, 0, RANGE)
            .link(0, 0, MIN, 1, RANGE).link(0, 0, MIN, MAX, RANGE).link(0, 0, -2, -1, RANGE);
    }

    private static void toNotBehindFrom() {
        one("a place not behind the other is RANGE").link(0, 0, 0, 0, RANGE).link(0, 0, 1, 1, RANGE)
            .link(0, 0, 2, 1, RANGE).link(0, 0, 100000, 100000, RANGE).link(0, 0, 5, MIN, RANGE)
            .link(0, 0, MAX, MIN, RANGE).link(0, 0, 0, -1, RANGE);
    }

    private static void toTooLarge() {
        one("a place above 100000 is RANGE").link(0, 0, 0, 100001, RANGE)
            .link(0, 0, 100000, 100001, RANGE).link(0, 0, 0, MAX, RANGE)
            .link(0, 0, 100001, 100002, RANGE);
    }

    private static void placesAtTheEnds() {
        one("0 <= from < to <= 100000").link(0, 0, 0, 1, 1).link(0, 0, 0, 100000, 2)
            .link(0, 0, 99999, 100000, 3).read(0, 3).steps(2, 0, 0, 99999)
            .steps(3, 1, 100000, 100000);
    }

    private static void whateverTheSize() {
        one("whatever the SIZE").link(0, 0, 9, 11, 1).link(0, 0, 10, 11, 2).link(0, 0, 50000, 60000, 3);
        new Run(6, "also of a file of SIZE 0").maps(1).files(0).tree(0, 0, -1).link(0, 0, 0, 1, 1);
    }

    private static void ofOneThatRepeats() {
        one("STATE if it repeats another one").tree(0, 1, -1).repeat(1, 0, 1)
            .link(1, 0, 0, 1, STATE).about(1, 4, 0);
    }

    private static void ofOneThatIsRepeated() {
        one("one that is repeated may have links").tree(0, 1, -1).repeat(1, 0, 1)
            .link(0, 0, 0, 1, 1).read(0, 2);
    }

    private static void ofOneWithSomeUnderIt() {
        one("one with some under it may have links").tree(0, 1, 0).link(0, 0, 0, 1, 1);
    }

    private static Run five(String sentence) {
        return one(sentence).link(0, 0, 0, 1, 1).link(0, 0, 1, 2, 2).link(0, 0, 2, 3, 3)
            .link(0, 0, 3, 4, 4).link(0, 0, 4, 5, 5);
    }

    private static void atMostFive() {
        five("the 6th is FULL").link(0, 0, 5, 6, FULL).link(0, 0, 0, 1, FULL).about(0, 4, 5)
            .read(0, 5).steps(2, 0, 1, 2, 3, 4);
    }

    private static void fiveOfEach() {
        Run run = five("at most five of a division, not of all, nor of a file").row(0, -1, 1, 20);
        for (int division = 1; division <= 20; division++) {
            for (int n = 1; n <= 5; n++) {
                run.link(division, 0, 0, n, n);
            }
            run.link(division, 0, 0, 6, FULL);
        }
        run.read(0, 105);
    }

    private static void theSameAgain() {
        one("the same again is a link more").link(0, 0, 3, 4, 1).link(0, 0, 3, 4, 2).read(0, 2)
            .steps(2, 3, 3);
    }

    private static void noneBeforeRange() {
        one("NONE comes before RANGE").link(1, 0, 1, 1, NONE).link(0, 1, -1, 1, NONE)
            .link(-1, 0, 0, 100001, NONE).link(0, -1, 0, 0, NONE);
    }

    private static void noneBeforeState() {
        one("NONE comes before STATE").tree(0, 1, -1).repeat(1, 0, 1).link(1, 1, 0, 1, NONE)
            .link(1, -1, 0, 1, NONE);
    }

    private static void noneBeforeFull() {
        five("NONE comes before FULL").link(0, 1, 0, 1, NONE).link(0, -1, 0, 1, NONE);
    }

    private static void rangeBeforeState() {
        one("RANGE comes before STATE").tree(0, 1, -1).repeat(1, 0, 1).link(1, 0, 1, 1, RANGE)
            .link(1, 0, -1, 1, RANGE).link(1, 0, 0, 100001, RANGE);
    }

    private static void rangeBeforeFull() {
        five("RANGE comes before FULL").link(0, 0, 1, 1, RANGE).link(0, 0, -1, 1, RANGE)
            .link(0, 0, 0, 100001, RANGE);
    }

    private static void refusedIsNoLink() {
        one("a refused link is none").link(0, 0, 2, 2, RANGE).link(0, 1, 0, 1, NONE).about(0, 4, 0)
            .read(0, 0).link(0, 0, 2, 3, 1).about(0, 4, 1).read(0, 1);
    }

    private static void refusedChangesNothing() {
        Run.nothingHappens(6, "nothing happens by NONE", Edges::filled, r -> r.link(9, 0, 0, 1, NONE));
        Run.nothingHappens(6, "nothing happens by NONE", Edges::filled, r -> r.link(0, 3, 0, 1, NONE));
        Run.nothingHappens(6, "nothing happens by RANGE", Edges::filled,
            r -> r.link(0, 0, 1, 1, RANGE));
        Run.nothingHappens(6, "nothing happens by RANGE", Edges::filled,
            r -> r.link(0, 0, 1, 100001, RANGE));
        Run.nothingHappens(6, "nothing happens by STATE", Edges::filled,
            r -> r.link(3, 0, 0, 1, STATE));
        Run.nothingHappens(6, "nothing happens by FULL", Edges::filled, r -> r.link(2, 0, 0, 1, FULL));
    }
}
