/** Promise 1: no files, maps, divisions; nothing printed. */
public final class Edges01NewObjectTest extends Edges {
    public static void main(String[] args) {
        noFiles();
        noMaps();
        noDivisions();
        nothingPrinted();
        nothingRead();
        nothingChecked();
        numbersFromZero();
        theLastPromisedCall();
        Due.end();
    }

    private static void noFiles() {
        new Run(1, "no files: there is none to have another size")
            .size(0, 1, NONE).size(29, 1, NONE).size(-1, 1, NONE);
        new Run(1, "no files: there is none to link to").maps(0).tree(0, 0, -1)
            .link(0, 0, 0, 1, NONE);
        new Run(1, "no files: a physical map has no fault of one").maps(0).faults(0);
    }

    private static void noMaps() {
        new Run(1, "no maps: there is none to add to").division(0, -1, 0, 0, NONE);
        new Run(1, "no maps: none has an order").order(0, 0, NONE);
        new Run(1, "no maps: none is read, checked, printed, compared")
            .read(0, NONE).check(0, NONE).print(0, NONE).differ(0, 0, NONE);
        new Run(1, "no maps: -1 is none").read(-1, NONE).check(-1, NONE).print(-1, NONE)
            .differ(-1, -1, NONE).order(-1, 0, NONE);
    }

    private static void noDivisions() {
        new Run(1, "no divisions: nothing is told of one").about(0, 0, NONE).about(119, 3, NONE);
        new Run(1, "no divisions: there is none to link").files(1).link(0, 0, 0, 1, NONE);
        new Run(1, "no divisions: none repeats").repeat(0, 0, NONE).repeat(0, 1, NONE);
        new Run(1, "no divisions: none moves").move(0, -1, NONE).move(0, 0, NONE);
        new Run(1, "no divisions: none to be under").maps(0).division(0, 0, 0, 0, NONE);
        new Run(1, "no divisions: a new map has none").maps(0).order(0, 0, NONE);
    }

    private static void nothingPrinted() {
        new Run(1, "nothing printed").at(0, NONE).at(-1, NONE).at(1, NONE);
    }

    private static void nothingRead() {
        new Run(1, "nothing read").step(0, 0, NONE).step(0, 1, NONE).step(0, 2, NONE)
            .step(0, 3, NONE).step(0, 4, NONE);
    }

    private static void nothingChecked() {
        new Run(1, "nothing checked").noFault(0, 0).noFault(0, 1).noFault(-1, 0);
    }

    private static void numbersFromZero() {
        new Run(1, "the first file is 0").file(1, 0);
        new Run(1, "the first map is 0").map(0, 0);
        new Run(1, "the first division is 0").maps(0).division(0, -1, 0, 0, 0);
    }

    private static void theLastPromisedCall() {
        Run run = new Run(1, "an object is good for 512 calls").maps(0).files(9).tree(0, 0, -1);
        for (int n = 4; n < 511; n++) {
            run.print(0, 2);
        }
        run.at(0, '0').link(0, 0, 0, 9, 1);
    }
}
