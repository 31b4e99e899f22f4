/**
 * Promise 8: a division comes under another one of its map (-1: to the top): 1. NONE; STATE if that
 * is of another map, repeats another one, is it itself, or under it, or it can't be, as told.
 */
public final class Edges08MoveTest extends Edges {
    public static void main(String[] args) {
        noSuchDivision();
        noSuchUnder();
        ofAnotherMap();
        underOneThatRepeats();
        underItself();
        underOneUnderIt();
        underWhatItRepeats();
        withOneThatRepeats();
        comesBackByTurns();
        whereItWouldNotComeBack();
        toTheTop();
        whereItIs();
        oneThatRepeatsMoves();
        oneThatIsRepeatedMoves();
        allUnderItComeAlong();
        amongThoseUnderOne();
        theLastOfMany();
        noneBeforeState();
        refusedChangesNothing();
        Due.end();
    }

    private static Run trees(String sentence, int... unders) {
        return new Run(8, sentence).maps(1).tree(0, 0, unders);
    }

    private static void noSuchDivision() {
        for (int division : NO_DIVISION) {
            new Run(8, "NONE for a division that is not there").maps(1).row(0, -1, 0, 8)
                .move(division, 0, NONE).move(division, -1, NONE);
        }
    }

    private static void noSuchUnder() {
        for (int under : NO_DIVISION) {
            if (under != -1) {
                new Run(8, "NONE for another one that is not there").maps(1).row(0, -1, 0, 8)
                    .move(0, under, NONE).about(0, 1, -1);
            }
        }
    }

    private static void ofAnotherMap() {
        trees("STATE under one of another map", -1, -1).map(1, 1).tree(1, 2, -1).move(0, 2, STATE)
            .move(2, 0, STATE).orders(0, 0, 1).orders(1, 2).about(0, 0, 0).about(2, 0, 1);
    }

    private static void underOneThatRepeats() {
        trees("STATE under one that repeats another one", -1, -1, -1).repeat(1, 0, 1)
            .move(2, 1, STATE).about(2, 1, -1).about(1, 6, 0).move(2, 0, 1);
        trees("STATE: also what it repeats", -1, -1).repeat(1, 0, 1).move(0, 1, STATE);
    }

    private static void underItself() {
        trees("STATE under itself", -1, 0).move(0, 0, STATE).move(1, 1, STATE).orders(0, 0, 1);
    }

    private static void underOneUnderIt() {
        trees("STATE under one that is under it", -1, 0, 1, 2).move(0, 1, STATE).move(0, 2, STATE)
            .move(0, 3, STATE).move(1, 3, STATE).move(2, 3, STATE).orders(0, 0, 1, 2, 3)
            .about(0, 1, -1);
        Run run = new Run(8, "STATE under one that is under 119 others").maps(1);
        for (int n = 0; n < 120; n++) {
            run.division(0, n - 1, 0, 0, n);
        }
        run.move(0, 119, STATE).move(60, 119, STATE).move(118, 119, STATE).move(119, 0, 1);
    }

    private static void underWhatItRepeats() {
        trees("STATE under what it repeats", -1, 0, 1, -1).repeat(3, 1, 1).move(3, 1, STATE)
            .move(3, 2, STATE).about(3, 1, -1);
        trees("over what it repeats it may come", -1, 0, 1, -1).repeat(3, 1, 1).move(3, 0, 1)
            .about(3, 1, 0);
    }

    private static void withOneThatRepeats() {
        trees("STATE: one under it repeats that", -1, -1, 1).repeat(2, 0, 1).move(1, 0, STATE)
            .about(1, 1, -1);
        trees("STATE: one far under it repeats one over that", -1, 0, 1, -1, 3, 4).repeat(5, 0, 1)
            .move(3, 2, STATE).move(3, 1, STATE).move(3, 0, STATE).move(4, 2, STATE);
        trees("STATE: the last of those under it repeats that", -1, -1, 1, 1, 1).repeat(4, 0, 1)
            .move(1, 0, STATE).move(2, 0, 1).move(3, 0, 1).move(4, 0, STATE);
    }

    private static void comesBackByTurns() {
        trees("STATE: it repeats one that repeats that", -1, -1, -1).repeat(1, 0, 1).repeat(2, 1, 1)
            .move(2, 0, STATE).about(2, 1, -1);
        trees("STATE: it repeats one, one under which repeats that", -1, -1, 1, -1).repeat(2, 0, 1)
            .repeat(3, 1, 1).move(3, 0, STATE).move(1, 0, STATE);
        Run run = new Run(8, "STATE by all divisions in turn").maps(1).row(0, -1, 0, 119);
        for (int n = 1; n < 120; n++) {
            run.repeat(n, n - 1, 1);
        }
        run.move(119, 0, STATE).move(1, 0, STATE).move(0, 119, STATE).orders(0, allTo(119));
    }

    private static int[] allTo(int last) {
        int[] all = new int[last + 1];
        for (int n = 0; n <= last; n++) {
            all[n] = n;
        }
        return all;
    }

    private static void whereItWouldNotComeBack() {
        trees("one that is repeated comes under one beside", -1, -1, -1).repeat(1, 0, 1)
            .move(0, 2, 1).about(0, 1, 2);
        trees("where it would come back only as it was before", -1, 0, -1, -1).repeat(3, 0, 1)
            .move(3, 1, STATE).move(1, 2, 1).move(3, 1, 1).about(3, 1, 1);
        trees("what is repeated comes under one over the repeating one", -1, 0, -1)
            .repeat(1, 2, 1).move(2, 0, 1).orders(0, 0, 1, 2);
    }

    private static void toTheTop() {
        trees("-1 is the top", -1, 0, 1).move(2, -1, 1).about(2, 1, -1).orders(0, 0, 1, 2)
            .move(1, -1, 1).about(0, 6, 0);
        trees("one at the top may come to the top", -1, -1).move(0, -1, 1).move(1, -1, 1)
            .orders(0, 0, 1);
    }

    private static void whereItIs() {
        trees("it may come where it is", -1, 0, 0).move(1, 0, 1).orders(0, 0, 1, 2).move(2, 0, 1)
            .orders(0, 0, 1, 2).about(0, 6, 2);
    }

    private static void oneThatRepeatsMoves() {
        trees("one that repeats comes under another one", -1, -1, -1).repeat(1, 0, 1).move(1, 2, 1)
            .about(1, 5, 0).about(1, 1, 2).orders(0, 0, 2, 1);
    }

    private static void oneThatIsRepeatedMoves() {
        trees("one that is repeated comes under another one", -1, 0, -1, -1).repeat(3, 1, 1)
            .move(1, 2, 1).about(3, 5, 1).orders(0, 0, 2, 1, 3);
    }

    private static void allUnderItComeAlong() {
        trees("all under it come along", -1, 0, 1, 1, -1).move(1, 4, 1).orders(0, 0, 4, 1, 2, 3)
            .about(0, 6, 0).about(4, 6, 3).about(2, 1, 1);
    }

    private static void amongThoseUnderOne() {
        new Run(8, "it comes among the others by its ORDER, then its number").maps(1)
            .division(0, -1, 5, 0, 0).division(0, -1, 5, 0, 1).division(0, 0, 5, 0, 2)
            .division(0, 0, 4, 0, 3).division(0, 0, 999, 0, 4).division(0, 0, 0, 0, 5)
            .move(1, 0, 1).orders(0, 0, 5, 3, 1, 2, 4).move(2, -1, 1).orders(0, 0, 5, 3, 1, 4, 2)
            .move(5, -1, 1).orders(0, 5, 0, 3, 1, 4, 2).move(4, -1, 1).orders(0, 5, 0, 3, 1, 2, 4);
    }

    private static void theLastOfMany() {
        new Run(8, "the last of 119 under one").maps(1).tree(0, 0, -1).row(0, 0, 1, 119)
            .move(119, 1, 1).about(0, 6, 119).about(1, 6, 1).order(0, 2, 119).order(0, 3, 2)
            .order(0, 119, 118).move(119, -1, 1).about(0, 6, 118).order(0, 119, 119);
    }

    private static void noneBeforeState() {
        trees("NONE comes before STATE", -1, -1).repeat(1, 0, 1).move(2, 1, NONE).move(2, 2, NONE)
            .move(-1, 1, NONE).move(1, 2, NONE).move(1, -2, NONE).move(-1, -1, NONE);
    }

    private static void refusedChangesNothing() {
        Run.nothingHappens(8, "nothing happens by NONE", Edges::filled, r -> r.move(9, -1, NONE));
        Run.nothingHappens(8, "nothing happens by NONE", Edges::filled, r -> r.move(1, 9, NONE));
        Run.nothingHappens(8, "nothing happens by STATE: another map", Edges::filled,
            r -> r.move(1, 6, STATE));
        Run.nothingHappens(8, "nothing happens by STATE: repeats", Edges::filled,
            r -> r.move(1, 3, STATE));
        Run.nothingHappens(8, "nothing happens by STATE: itself", Edges::filled,
            r -> r.move(1, 1, STATE));
        Run.nothingHappens(8, "nothing happens by STATE: under it", Edges::filled,
            r -> r.move(0, 7, STATE));
        Run.nothingHappens(8, "nothing happens by STATE: it would come back", Edges::filled,
            r -> r.move(3, 7, STATE));
    }
}
