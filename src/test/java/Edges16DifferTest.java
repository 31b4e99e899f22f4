/**
 * Promise 16: two maps are compared by THE ORDER: at how many places, from the first on, the
 * divisions have another LABEL, or are under more or fewer, or one map has none any more; NONE if
 * one is not there.
 */
public final class Edges16DifferTest extends Edges {
    public static void main(String[] args) {
        noSuchMap();
        withItself();
        emptyMaps();
        oneHasNoneAnyMore();
        anotherLabel();
        underMoreOrFewer();
        bothAtOnePlaceCountOnce();
        nothingElseCounts();
        byTheOrder();
        theMost();
        changesNothing();
        Due.end();
    }

    private static void noSuchMap() {
        for (int map : NO_FILE_OR_MAP) {
            new Run(16, "NONE if one is not there").maps(0, 1, 0).differ(map, 0, NONE)
                .differ(0, map, NONE).differ(map, map, NONE);
        }
    }

    private static void withItself() {
        new Run(16, "a map with itself").maps(0).differ(0, 0, 0).tree(0, 0, -1, 0, -1)
            .differ(0, 0, 0);
    }

    private static void emptyMaps() {
        new Run(16, "two empty maps").maps(0, 1).differ(0, 1, 0).differ(1, 0, 0);
        new Run(16, "an empty map and another one").maps(0, 1).tree(0, 0, -1, 0, -1)
            .differ(0, 1, 3).differ(1, 0, 3);
    }

    private static void oneHasNoneAnyMore() {
        Run run = new Run(16, "one map has none any more").maps(0, 1).division(0, -1, 0, 7, 0)
            .division(1, -1, 0, 7, 1).differ(0, 1, 0);
        run.division(0, -1, 1, 0, 2).differ(0, 1, 1).differ(1, 0, 1);
        run.division(0, -1, 2, 0, 3).differ(0, 1, 2).differ(1, 0, 2);
        run.division(1, -1, 1, 0, 4).differ(0, 1, 1).differ(1, 0, 1);
    }

    private static void anotherLabel() {
        new Run(16, "another LABEL").maps(0, 1).division(0, -1, 0, 0, 0).division(1, -1, 0, 1, 1)
            .differ(0, 1, 1).differ(1, 0, 1);
        new Run(16, "another LABEL at the last place").maps(0, 1).division(0, -1, 0, 5, 0)
            .division(0, -1, 1, 9999, 1).division(1, -1, 0, 5, 2).division(1, -1, 1, 9998, 3)
            .differ(0, 1, 1).differ(1, 0, 1);
    }

    private static void underMoreOrFewer() {
        Run run = new Run(16, "under more or fewer").maps(0, 1).division(0, -1, 0, 5, 0)
            .division(0, 0, 0, 5, 1).division(0, 1, 0, 5, 2).division(1, -1, 0, 5, 3)
            .division(1, 3, 0, 5, 4).division(1, 4, 0, 5, 5).differ(0, 1, 0);
        run.move(2, 0, 1).differ(0, 1, 1).differ(1, 0, 1);
        run.move(1, -1, 1).move(2, -1, 1).differ(0, 1, 2).differ(1, 0, 2);
    }

    private static void bothAtOnePlaceCountOnce() {
        new Run(16, "another LABEL and under fewer is one place").maps(0, 1)
            .division(0, -1, 0, 5, 0).division(0, 0, 0, 6, 1).division(1, -1, 0, 5, 2)
            .division(1, -1, 0, 7, 3).differ(0, 1, 1).differ(1, 0, 1);
    }

    private static void nothingElseCounts() {
        new Run(16, "not the KIND, the ORDER, the number, links, repeating").maps(0, 1).files(9)
            .division(0, -1, 0, 5, 0).division(0, -1, 1, 6, 1).division(1, -1, 998, 5, 2)
            .division(1, -1, 999, 6, 3).link(0, 0, 0, 9, 1).repeat(3, 2, 1).differ(0, 1, 0)
            .differ(1, 0, 0);
        new Run(16, "not under which one, where they are as many").maps(0, 1)
            .division(0, -1, 0, 5, 0).division(0, -1, 1, 6, 1).division(0, 1, 0, 7, 2)
            .division(1, -1, 0, 5, 3).division(1, -1, 1, 6, 4).division(1, 4, 9, 7, 5)
            .differ(0, 1, 0);
    }

    private static void byTheOrder() {
        new Run(16, "by THE ORDER, place by place").maps(0, 1).division(0, -1, 1, 5, 0)
            .division(0, -1, 2, 6, 1).division(1, -1, 2, 6, 2).division(1, -1, 1, 5, 3)
            .differ(0, 1, 0).division(1, -1, 0, 4, 4).differ(0, 1, 3).differ(1, 0, 3);
    }

    private static void theMost() {
        new Run(16, "119 and one").maps(0, 1).row(0, -1, 0, 118).tree(1, 119, -1)
            .differ(0, 1, 119).differ(1, 0, 119);
        new Run(16, "120 and none").maps(0, 1).row(0, -1, 0, 119).differ(0, 1, 120)
            .differ(1, 0, 120);
    }

    private static void changesNothing() {
        Run.nothingHappens(16, "nothing happens by NONE", Edges::filled, r -> r.differ(0, 3, NONE));
        Run.nothingHappens(16, "nothing happens by NONE", Edges::filled, r -> r.differ(-1, 0, NONE));
        Run.nothingHappens(16, "nothing happens by comparing", Edges::filled,
            r -> r.differ(0, 2, 6));
    }
}
