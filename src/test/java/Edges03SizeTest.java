/** Promise 3: a file has another SIZE: the one before. NONE, RANGE. */
public final class Edges03SizeTest extends Edges {
    public static void main(String[] args) {
        noSuchFile();
        noneBehindThe30th();
        sizeTooSmall();
        sizeTooLarge();
        sizesAtTheEnds();
        theOneBefore();
        noneBeforeRange();
        refusedLeavesTheSize();
        refusedChangesNothing();
        linksStay();
        Due.end();
    }

    private static void noSuchFile() {
        for (int file : NO_FILE_OR_MAP) {
            new Run(3, "NONE for a file that is not there").files(1, 2, 3).size(file, 4, NONE);
        }
    }

    private static void noneBehindThe30th() {
        Run run = new Run(3, "NONE behind the 30th file");
        for (int n = 0; n < 30; n++) {
            run.file(n, n);
        }
        run.size(30, 4, NONE).size(29, 4, 29).size(0, 4, 0);
    }

    private static void sizeTooSmall() {
        new Run(3, "a SIZE below 0 is RANGE").files(6).size(0, -1, RANGE).size(0, MIN, RANGE);
    }

    private static void sizeTooLarge() {
        new Run(3, "a SIZE above 100000 is RANGE").files(6).size(0, 100001, RANGE)
            .size(0, MAX, RANGE);
    }

    private static void sizesAtTheEnds() {
        new Run(3, "a SIZE may become 0").files(6).size(0, 0, 6).size(0, 1, 0);
        new Run(3, "a SIZE may become 100000").files(6).size(0, 100000, 6).size(0, 1, 100000);
    }

    private static void theOneBefore() {
        new Run(3, "the answer is the SIZE before").files(6, 7).size(0, 8, 6).size(0, 8, 8)
            .size(0, 9, 8).size(1, 9, 7);
    }

    private static void noneBeforeRange() {
        new Run(3, "NONE comes before RANGE").files(6).size(1, -1, NONE).size(-1, 100001, NONE);
    }

    private static void refusedLeavesTheSize() {
        new Run(3, "a refused SIZE leaves the one that is").files(6).size(0, -1, RANGE)
            .size(0, 100001, RANGE).size(1, 2, NONE).size(0, 3, 6);
    }

    private static void refusedChangesNothing() {
        Run.nothingHappens(3, "nothing happens by NONE", Edges::filled, r -> r.size(3, 1, NONE));
        Run.nothingHappens(3, "nothing happens by RANGE", Edges::filled, r -> r.size(0, -1, RANGE));
        Run.nothingHappens(3, "nothing happens by RANGE", Edges::filled,
            r -> r.size(2, 100001, RANGE));
    }

    private static void linksStay() {
        new Run(3, "a SIZE may become smaller than a link: it stays").maps(1).files(9).tree(0, 0, -1)
            .link(0, 0, 2, 9, 1).size(0, 0, 9).read(0, 1).wholeStep(0, 0, 0, 2, 9, 0);
    }
}
