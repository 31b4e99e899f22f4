/**
 * Promise 7: a division repeats another one from now on: 1. NONE; STATE if it has links, or some
 * under it, repeats one already, or it can't be, as told (also of another map).
 */
public final class Edges07RepeatTest extends Edges {
    public static void main(String[] args) {
        noSuchDivision();
        noSuchOther();
        withLinks();
        withSomeUnderIt();
        alreadyRepeats();
        itself();
        oneThatItIsUnder();
        oneThatIsUnderIt();
        ofAnotherMap();
        comesBackToIt();
        comesBackToOneThatItIsUnder();
        comesBackByManyTurns();
        comesBackByTheLastOfMany();
        comesBackByManyWays();
        oneBesideIt();
        oneThatRepeats();
        oneThatManyRepeat();
        oneWithAnythingInIt();
        oneUnderAnother();
        whenNoneAreUnderItAnyMore();
        thenNoLinksAndNoneUnderIt();
        noneBeforeState();
        refusedChangesNothing();
        Due.end();
    }

    private static Run tops(String sentence, int last) {
        return new Run(7, sentence).maps(1).files(10).row(0, -1, 0, last);
    }

    private static void noSuchDivision() {
        for (int division : NO_DIVISION) {
            tops("NONE for a division that is not there", 8).repeat(division, 0, NONE);
        }
    }

    private static void noSuchOther() {
        for (int other : NO_DIVISION) {
            tops("NONE for another one that is not there", 8).repeat(0, other, NONE)
                .about(0, 5, -1);
        }
    }

    private static void withLinks() {
        tops("STATE if it has links", 1).link(1, 0, 0, 1, 1).repeat(1, 0, STATE).about(1, 5, -1)
            .repeat(0, 1, 1);
    }

    private static void withSomeUnderIt() {
        tops("STATE if it has some under it", 1).tree(0, 2, 1).repeat(1, 0, STATE).about(1, 5, -1)
            .repeat(0, 1, 1);
    }

    private static void alreadyRepeats() {
        tops("STATE if it repeats one already", 2).repeat(2, 0, 1).repeat(2, 1, STATE)
            .repeat(2, 0, STATE).about(2, 5, 0);
    }

    private static void itself() {
        tops("STATE: itself", 1).repeat(0, 0, STATE).repeat(1, 1, STATE).about(0, 5, -1);
    }

    private static void oneThatItIsUnder() {
        new Run(7, "STATE: one that it is under").maps(1).tree(0, 0, -1, 0, 1, 2)
            .repeat(3, 2, STATE).repeat(3, 1, STATE).repeat(3, 0, STATE).about(3, 5, -1);
    }

    private static void oneThatIsUnderIt() {
        new Run(7, "STATE: one that is under it").maps(1).tree(0, 0, -1, 0, 1)
            .repeat(0, 1, STATE).repeat(0, 2, STATE).repeat(1, 2, STATE).about(0, 5, -1);
    }

    private static void ofAnotherMap() {
        new Run(7, "STATE: one of another map").maps(1, 1).tree(0, 0, -1).tree(1, 1, -1)
            .repeat(0, 1, STATE).repeat(1, 0, STATE).about(0, 5, -1).about(1, 5, -1);
    }

    private static void comesBackToIt() {
        tops("STATE if the other one repeats it", 1).repeat(0, 1, 1).repeat(1, 0, STATE);
        tops("STATE if one under the other one repeats it", 1).tree(0, 2, 0).repeat(2, 1, 1)
            .repeat(1, 0, STATE).repeat(1, 2, STATE);
        tops("STATE if one far under the other one repeats it", 1).tree(0, 2, 0, 2, 3)
            .repeat(4, 1, 1).repeat(1, 0, STATE).repeat(1, 2, STATE).repeat(1, 3, STATE)
            .repeat(1, 4, STATE);
        tops("STATE if the last of those under the other one repeats it", 1).tree(0, 2, 0, 0, 0)
            .repeat(4, 1, 1).repeat(1, 0, STATE).repeat(1, 2, 1);
    }

    private static void comesBackToOneThatItIsUnder() {
        tops("STATE if the other one repeats one that it is under", 1).tree(0, 2, 0)
            .repeat(1, 0, 1).repeat(2, 1, STATE).about(2, 5, -1);
        tops("STATE if the other one repeats one that it is far under", 1).tree(0, 2, 0, 2, 3)
            .repeat(1, 0, 1).repeat(4, 1, STATE);
        tops("STATE if one under the other one repeats one that it is under", 1)
            .tree(0, 2, 0, 1).repeat(3, 0, 1).repeat(2, 3, STATE).repeat(2, 1, STATE);
        tops("but one beside that may be repeated", 1).tree(0, 2, 0, 0).repeat(1, 3, 1)
            .repeat(2, 1, 1);
    }

    private static void comesBackByManyTurns() {
        tops("STATE if by repeating again and again one comes to it", 4).repeat(0, 1, 1)
            .repeat(1, 2, 1).repeat(2, 3, 1).repeat(3, 4, 1).repeat(4, 0, STATE)
            .repeat(4, 1, STATE).repeat(4, 2, STATE).repeat(4, 3, STATE).about(4, 5, -1);
        tops("STATE by turns of both kinds", 3).tree(0, 4, 0, 1, 2, 3).repeat(4, 1, 1)
            .repeat(5, 2, 1).repeat(6, 3, 1).repeat(7, 0, STATE).repeat(7, 4, STATE)
            .repeat(7, 6, STATE).repeat(7, 1, STATE);
        Run run = tops("STATE by all divisions in turn", 119);
        for (int n = 0; n < 119; n++) {
            run.repeat(n, n + 1, 1);
        }
        run.repeat(119, 0, STATE).repeat(119, 118, STATE).repeat(119, 60, STATE);
    }

    private static void comesBackByTheLastOfMany() {
        new Run(7, "STATE if the last of 118 under the other one repeats it").maps(1)
            .tree(0, 0, -1).row(0, 0, 1, 118).tree(0, 119, -1).repeat(118, 119, 1)
            .repeat(119, 0, STATE).repeat(119, 117, 1);
    }

    /** Twelve times one with eight under it, which all repeat the one before: 8 ^ 12 ways to 0. */
    private static void comesBackByManyWays() {
        Run run = new Run(7, "STATE where many ways come to it").maps(1).tree(0, 0, -1);
        for (int next = 1; next < 109; next += 9) {
            run.tree(0, next, -1).row(0, next, next + 1, next + 8);
            for (int n = next + 1; n <= next + 8; n++) {
                run.repeat(n, next == 1 ? 0 : next - 9, 1);
            }
        }
        run.repeat(0, 100, STATE).about(0, 5, -1).tree(0, 109, -1).repeat(109, 100, 1);
    }

    private static void oneBesideIt() {
        tops("one beside it may be repeated", 1).repeat(0, 1, 1).about(0, 5, 1);
        new Run(7, "also where both are under one").maps(0).tree(0, 0, -1, 0, 0).repeat(1, 2, 1)
            .about(1, 5, 2);
    }

    private static void oneThatRepeats() {
        tops("one that repeats another one may be repeated", 2).repeat(1, 0, 1).repeat(2, 1, 1)
            .about(2, 5, 1);
    }

    private static void oneThatManyRepeat() {
        Run run = tops("all others may repeat one", 119);
        for (int n = 0; n < 119; n++) {
            run.repeat(n, 119, 1);
        }
        run.about(0, 5, 119).about(118, 5, 119);
    }

    private static void oneWithAnythingInIt() {
        tops("one with links and some under it may be repeated", 1).tree(0, 2, 0)
            .link(0, 0, 0, 1, 1).repeat(1, 0, 1);
        tops("an empty one may be repeated", 1).repeat(1, 0, 1);
    }

    private static void oneUnderAnother() {
        new Run(7, "one that is under the one beside it").maps(0).tree(0, 0, -1, 0, 1, -1)
            .repeat(3, 2, 1).about(3, 5, 2);
        new Run(7, "the one beside that which it is under").maps(0).tree(0, 0, -1, 0, 1, -1)
            .repeat(2, 3, 1).about(2, 5, 3);
    }

    private static void whenNoneAreUnderItAnyMore() {
        tops("what was under it has moved away", 1).tree(0, 2, 1).repeat(1, 0, STATE)
            .move(2, -1, 1).repeat(1, 0, 1);
        tops("it may repeat what was under it", 0).tree(0, 1, 0).repeat(0, 1, STATE)
            .move(1, -1, 1).repeat(0, 1, 1);
        tops("it may repeat what it was under", 0).tree(0, 1, 0).repeat(1, 0, STATE)
            .move(1, -1, 1).repeat(1, 0, 1);
    }

    private static void thenNoLinksAndNoneUnderIt() {
        tops("then it has no links and none under it", 2).repeat(1, 0, 1).link(1, 0, 0, 1, STATE)
            .division(0, 1, 0, 0, STATE).move(2, 1, STATE).about(1, 4, 0).about(1, 6, 0);
    }

    private static void noneBeforeState() {
        tops("NONE comes before STATE", 3).link(1, 0, 0, 1, 1).tree(0, 4, 2).repeat(3, 0, 1)
            .repeat(1, 5, NONE).repeat(2, 5, NONE).repeat(3, 5, NONE).repeat(3, -1, NONE)
            .repeat(5, 5, NONE).repeat(-1, -1, NONE);
    }

    private static void refusedChangesNothing() {
        Run.nothingHappens(7, "nothing happens by NONE", Edges::filled, r -> r.repeat(9, 0, NONE));
        Run.nothingHappens(7, "nothing happens by NONE", Edges::filled, r -> r.repeat(8, 9, NONE));
        Run.nothingHappens(7, "nothing happens by STATE: links", Edges::filled,
            r -> r.repeat(1, 8, STATE));
        Run.nothingHappens(7, "nothing happens by STATE: some under it", Edges::filled,
            r -> r.repeat(0, 8, STATE));
        Run.nothingHappens(7, "nothing happens by STATE: already", Edges::filled,
            r -> r.repeat(3, 8, STATE));
        Run.nothingHappens(7, "nothing happens by STATE: itself", Edges::filled,
            r -> r.repeat(8, 8, STATE));
        Run.nothingHappens(7, "nothing happens by STATE: another map", Edges::filled,
            r -> r.repeat(8, 6, STATE));
        Run.nothingHappens(7, "nothing happens by STATE: it would come back",
            r -> r.with(Edges::filled).division(0, 0, 4, 4, 9), r -> r.repeat(9, 3, STATE));
    }
}
