/**
 * Promise 5: a division more, of a map, under another division (-1: at the top): its number.
 * NONE; RANGE; STATE if that is of another map, or repeats another one; FULL.
 */
public final class Edges05DivisionTest extends Edges {
    public static void main(String[] args) {
        noSuchMap();
        noSuchUnder();
        minusOneIsTheTop();
        orderTooSmall();
        orderTooLarge();
        ordersAtTheEnds();
        labelTooSmall();
        labelTooLarge();
        labelsAtTheEnds();
        underOneOfAnotherMap();
        underOneThatRepeats();
        underOneThatIsRepeated();
        underOneWithLinks();
        numbersUpTo119();
        inAllMapsTogether();
        full();
        noneBeforeRange();
        noneBeforeState();
        noneBeforeFull();
        rangeBeforeState();
        rangeBeforeFull();
        stateBeforeFull();
        refusedTakesNoNumber();
        refusedChangesNothing();
        Due.end();
    }

    private static void noSuchMap() {
        for (int map : NO_FILE_OR_MAP) {
            new Run(5, "NONE for a map that is not there").maps(0, 1, 0).division(map, -1, 0, 0, NONE);
        }
    }

    private static void noSuchUnder() {
        for (int under : NO_DIVISION) {
            if (under != -1) {
                new Run(5, "NONE for a division that is not there").maps(0).row(0, -1, 0, 8)
                    .division(0, under, 0, 0, NONE);
            }
        }
        new Run(5, "NONE: the new one is not there yet").maps(0).division(0, 0, 0, 0, NONE);
    }

    private static void minusOneIsTheTop() {
        new Run(5, "-1 is the top").maps(0).division(0, -1, 0, 0, 0).about(0, 1, -1)
            .printed(0, "0\n");
        new Run(5, "under another one").maps(0).tree(0, 0, -1, 0).about(1, 1, 0)
            .printed(0, "0\n 1\n");
    }

    private static void orderTooSmall() {
        new Run(5, "an ORDER below 0 is RANGE").maps(0).division(0, -1, -1, 0, RANGE)
            .division(0, -1, MIN, 0, RANGE);
    }

    private static void orderTooLarge() {
        new Run(5, "an ORDER above 999 is RANGE").maps(0).division(0, -1, 1000, 0, RANGE)
            .division(0, -1, 9999, 0, RANGE).division(0, -1, MAX, 0, RANGE);
    }

    private static void ordersAtTheEnds() {
        new Run(5, "an ORDER may be 0").maps(0).division(0, -1, 0, 5, 0).about(0, 2, 0);
        new Run(5, "an ORDER may be 999").maps(0).division(0, -1, 999, 5, 0).about(0, 2, 999);
    }

    private static void labelTooSmall() {
        new Run(5, "a LABEL below 0 is RANGE").maps(0).division(0, -1, 0, -1, RANGE)
            .division(0, -1, 0, MIN, RANGE);
    }

    private static void labelTooLarge() {
        new Run(5, "a LABEL above 9999 is RANGE").maps(0).division(0, -1, 0, 10000, RANGE)
            .division(0, -1, 0, MAX, RANGE);
    }

    private static void labelsAtTheEnds() {
        new Run(5, "a LABEL may be 0").maps(0).division(0, -1, 5, 0, 0).about(0, 3, 0);
        new Run(5, "a LABEL may be 9999").maps(0).division(0, -1, 5, 9999, 0).about(0, 3, 9999);
        new Run(5, "a LABEL may be above each ORDER").maps(0).division(0, -1, 5, 1000, 0)
            .about(0, 3, 1000);
    }

    private static void underOneOfAnotherMap() {
        new Run(5, "STATE under a division of another map").maps(0, 0).tree(0, 0, -1).tree(1, 1, -1)
            .division(1, 0, 0, 0, STATE).division(0, 1, 0, 0, STATE).division(0, 0, 0, 0, 2)
            .division(1, 1, 0, 0, 3);
    }

    private static void underOneThatRepeats() {
        new Run(5, "STATE under one that repeats another one").maps(0).tree(0, 0, -1, -1)
            .repeat(1, 0, 1).division(0, 1, 0, 0, STATE).about(1, 6, 0);
    }

    private static void underOneThatIsRepeated() {
        new Run(5, "one that is repeated may have some under it").maps(0).tree(0, 0, -1, -1)
            .repeat(1, 0, 1).division(0, 0, 0, 0, 2).about(0, 6, 1);
    }

    private static void underOneWithLinks() {
        new Run(5, "one with links may have some under it").maps(0).files(1).tree(0, 0, -1)
            .link(0, 0, 0, 1, 1).division(0, 0, 0, 0, 1);
    }

    private static void numbersUpTo119() {
        new Run(5, "divisions are 0 .. 119, all under one another").maps(0).with(Edges05DivisionTest::chain)
            .about(119, 1, 118).about(120, 1, NONE).order(0, 119, 119).order(0, 120, NONE);
    }

    private static void chain(Run run) {
        for (int n = 0; n < 120; n++) {
            run.division(0, n - 1, 0, 0, n);
        }
    }

    private static void inAllMapsTogether() {
        Run run = new Run(5, "120 in all maps together").maps(0, 1, 0, 1, 0);
        for (int n = 0; n < 120; n++) {
            run.division(n % 5, -1, 0, 0, n);
        }
        for (int map = 0; map < 5; map++) {
            run.division(map, -1, 0, 0, FULL).order(map, 23, 115 + map).order(map, 24, NONE);
        }
    }

    /** All 120: 118 in map 0, of which 1 repeats 0, and two in map 1. */
    private static Run all(Run run) {
        return run.maps(0, 1).row(0, -1, 0, 117).tree(1, 118, -1, -1).repeat(1, 0, 1);
    }

    private static void full() {
        all(new Run(5, "the 121st is FULL")).division(0, -1, 0, 0, FULL).division(0, 0, 0, 0, FULL)
            .division(1, 118, 999, 9999, FULL);
    }

    private static void noneBeforeRange() {
        new Run(5, "NONE comes before RANGE").maps(0).tree(0, 0, -1)
            .division(1, -1, -1, 0, NONE).division(-1, -1, 0, 10000, NONE)
            .division(0, 1, 1000, 0, NONE).division(0, -2, 0, -1, NONE);
    }

    private static void noneBeforeState() {
        new Run(5, "NONE comes before STATE").maps(0).tree(0, 0, -1, -1).repeat(1, 0, 1)
            .division(1, 0, 0, 0, NONE).division(1, 1, 0, 0, NONE).division(-1, 0, 0, 0, NONE);
    }

    private static void noneBeforeFull() {
        all(new Run(5, "NONE comes before FULL")).division(2, -1, 0, 0, NONE)
            .division(0, 120, 0, 0, NONE).division(0, -2, 0, 0, NONE);
    }

    private static void rangeBeforeState() {
        new Run(5, "RANGE comes before STATE").maps(0, 0).tree(0, 0, -1, -1).repeat(1, 0, 1)
            .division(1, 0, -1, 0, RANGE).division(1, 0, 0, 10000, RANGE)
            .division(0, 1, 1000, 0, RANGE).division(0, 1, 0, -1, RANGE);
    }

    private static void rangeBeforeFull() {
        all(new Run(5, "RANGE comes before FULL")).division(0, -1, -1, 0, RANGE)
            .division(0, -1, 1000, 0, RANGE).division(0, -1, 0, -1, RANGE)
            .division(0, -1, 0, 10000, RANGE);
    }

    private static void stateBeforeFull() {
        all(new Run(5, "STATE comes before FULL")).division(0, 118, 0, 0, STATE)
            .division(0, 1, 0, 0, STATE);
    }

    private static void refusedTakesNoNumber() {
        new Run(5, "a refused division takes no number").maps(0, 0).division(2, -1, 0, 0, NONE)
            .division(0, -1, 1000, 0, RANGE).division(0, -1, 0, 0, 0).division(1, 0, 0, 0, STATE)
            .division(0, -1, 0, 0, 1).orders(0, 0, 1).orders(1);
        all(new Run(5, "a division too many is nowhere")).division(1, -1, 0, 0, FULL)
            .division(1, 119, 0, 0, FULL).orders(1, 118, 119).about(119, 6, 0).about(120, 0, NONE);
    }

    private static void refusedChangesNothing() {
        Run.nothingHappens(5, "nothing happens by NONE", Edges::filled,
            r -> r.division(3, -1, 0, 0, NONE));
        Run.nothingHappens(5, "nothing happens by NONE", Edges::filled,
            r -> r.division(0, 9, 0, 0, NONE));
        Run.nothingHappens(5, "nothing happens by RANGE", Edges::filled,
            r -> r.division(0, 0, 1000, 0, RANGE));
        Run.nothingHappens(5, "nothing happens by RANGE", Edges::filled,
            r -> r.division(0, 0, 0, 10000, RANGE));
        Run.nothingHappens(5, "nothing happens by STATE", Edges::filled,
            r -> r.division(1, 0, 0, 0, STATE));
        Run.nothingHappens(5, "nothing happens by STATE", Edges::filled,
            r -> r.division(0, 3, 0, 0, STATE));
    }
}
