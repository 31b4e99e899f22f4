/**
 * Promise 17: of a division, what 0: its map, 1: under which, or -1, 2: its ORDER, 3: its LABEL, 4:
 * links, 5: which it repeats, or -1, 6: how many are under it, all together; NONE for none such, or
 * another what.
 */
public final class Edges17AboutTest extends Edges {
    public static void main(String[] args) {
        noSuchDivision();
        anotherWhat();
        itsMap();
        underWhich();
        itsOrderAndLabel();
        links();
        whichItRepeats();
        howManyAreUnderIt();
        changesNothing();
        Due.end();
    }

    private static void noSuchDivision() {
        for (int division : NO_DIVISION) {
            Run run = new Run(17, "NONE for a division that is not there").maps(0).row(0, -1, 0, 8);
            for (int what = 0; what <= 6; what++) {
                run.about(division, what, NONE);
            }
        }
    }

    private static void anotherWhat() {
        new Run(17, "NONE for another what").maps(0).tree(0, 0, -1, 0, -1).repeat(2, 0, 1)
            .about(0, -1, NONE).about(0, 7, NONE).about(1, 8, NONE).about(2, 7, NONE)
            .about(0, MIN, NONE).about(0, MAX, NONE).about(3, 7, NONE);
    }

    private static void itsMap() {
        new Run(17, "0: its map").maps(0, 0, 1, 1, 0).tree(4, 0, -1, 0).tree(0, 2, -1)
            .about(0, 0, 4).about(1, 0, 4).about(2, 0, 0).move(1, -1, 1).about(1, 0, 4);
    }

    private static void underWhich() {
        new Run(17, "1: under which, or -1").maps(0).tree(0, 0, -1, 0, 1).about(0, 1, -1)
            .about(1, 1, 0).about(2, 1, 1).move(2, 0, 1).about(2, 1, 0).move(2, -1, 1)
            .about(2, 1, -1);
    }

    private static void itsOrderAndLabel() {
        new Run(17, "2: its ORDER, 3: its LABEL").maps(0).division(0, -1, 0, 9999, 0)
            .division(0, -1, 999, 0, 1).about(0, 2, 0).about(0, 3, 9999).about(1, 2, 999)
            .about(1, 3, 0).move(1, 0, 1).about(1, 2, 999).about(1, 3, 0);
    }

    private static void links() {
        Run run = new Run(17, "4: links, from none to five").maps(0).files(9).tree(0, 0, -1, 0, -1);
        run.about(0, 4, 0);
        for (int n = 1; n <= 5; n++) {
            run.link(0, 0, 0, n, n).about(0, 4, n);
        }
        run.link(0, 0, 0, 6, FULL).about(0, 4, 5).link(1, 0, 0, 6, 1).about(0, 4, 5).about(1, 4, 1);
        run.repeat(2, 0, 1).about(2, 4, 0);
    }

    private static void whichItRepeats() {
        new Run(17, "5: which it repeats, or -1").maps(0).tree(0, 0, -1, -1, -1).about(0, 5, -1)
            .about(1, 5, -1).repeat(1, 0, 1).about(1, 5, 0).about(0, 5, -1).repeat(2, 1, 1)
            .about(2, 5, 1);
    }

    private static void howManyAreUnderIt() {
        new Run(17, "6: all together").maps(0).tree(0, 0, -1, 0, 1, 1, 0, -1).about(0, 6, 4)
            .about(1, 6, 2).about(2, 6, 0).about(5, 6, 0).move(1, 5, 1).about(0, 6, 1)
            .about(5, 6, 3);
        new Run(17, "6: what it repeats is not under it").maps(0).tree(0, 0, -1, 0, -1, -1, 3)
            .repeat(2, 0, 1).about(2, 6, 0).repeat(4, 0, 1).about(3, 6, 1);
        Run run = new Run(17, "6: from none to 119").maps(0);
        for (int n = 0; n < 120; n++) {
            run.division(0, n - 1, 0, 0, n);
        }
        run.about(0, 6, 119).about(1, 6, 118).about(118, 6, 1).about(119, 6, 0);
        new Run(17, "6: 119 beside one another").maps(0).tree(0, 0, -1).row(0, 0, 1, 119)
            .about(0, 6, 119).about(119, 6, 0);
    }

    private static void changesNothing() {
        Run.nothingHappens(17, "nothing happens by NONE", Edges::filled, r -> r.about(9, 0, NONE));
        Run.nothingHappens(17, "nothing happens by NONE", Edges::filled, r -> r.about(0, 7, NONE));
    }
}
