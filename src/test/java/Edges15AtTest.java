/** Promise 15: sign i, from 0 on, of what was printed latest; NONE. */
public final class Edges15AtTest extends Edges {
    public static void main(String[] args) {
        beforeAPrint();
        belowTheFirst();
        behindTheLast();
        whatWasPrintedLatest();
        fewerSignsThanBefore();
        anEmptyPrint();
        asItWasThen();
        behindARefusedPrint();
        nothingElsePrints();
        refusedChangesNothing();
        Due.end();
    }

    private static Run two(String sentence) {
        return new Run(15, sentence).maps(0, 1).files(9).tree(0, 0, -1, 0).printed(0, "0\n 1\n");
    }

    private static void beforeAPrint() {
        new Run(15, "NONE before a print").maps(0).tree(0, 0, -1).at(0, NONE);
    }

    private static void belowTheFirst() {
        two("NONE before sign 0").at(-1, NONE).at(-2, NONE).at(MIN, NONE);
    }

    private static void behindTheLast() {
        two("NONE behind the last sign").at(4, 10).at(5, NONE).at(6, NONE).at(7859, NONE)
            .at(7860, NONE).at(MAX, NONE);
    }

    private static void whatWasPrintedLatest() {
        two("of the map that was printed latest").division(1, -1, 0, 4567, 2)
            .printed(1, "4567\n").printed(0, "0\n 1\n");
    }

    private static void fewerSignsThanBefore() {
        two("NONE where an earlier print had a sign").division(1, -1, 0, 8, 2).printed(1, "8\n")
            .at(3, NONE).at(4, NONE);
    }

    private static void anEmptyPrint() {
        two("an empty map was printed latest").print(1, 0).at(0, NONE).at(4, NONE);
    }

    private static void asItWasThen() {
        two("as it was printed: a division more").division(0, -1, 0, 77, 2).stillPrinted("0\n 1\n");
        two("as it was printed: one moved").move(1, -1, 1).stillPrinted("0\n 1\n");
        two("as it was printed: one repeats").tree(0, 2, -1).printed(0, "0\n 1\n2\n")
            .repeat(2, 0, 1).stillPrinted("0\n 1\n2\n").printed(0, "0\n 1\n2=\n");
    }

    private static void behindARefusedPrint() {
        two("a refused print is none").print(2, NONE).print(-1, NONE).print(MAX, NONE)
            .stillPrinted("0\n 1\n");
    }

    private static void nothingElsePrints() {
        two("nothing else prints").read(1, 0).check(1, 0).differ(0, 1, 2).order(1, 0, NONE)
            .about(0, 3, 0).stillPrinted("0\n 1\n");
    }

    private static void refusedChangesNothing() {
        Run.nothingHappens(15, "nothing happens by NONE", Edges::filled, r -> r.at(26, NONE));
        Run.nothingHappens(15, "nothing happens by NONE", Edges::filled, r -> r.at(-1, NONE));
    }
}
