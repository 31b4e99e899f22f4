/** What the tests of the edges share: the answers' names, the ends of int, and a state of all kinds. */
abstract class Edges {
    static final int NONE = -1;
    static final int RANGE = -2;
    static final int STATE = -3;
    static final int FULL = -4;
    static final int MIN = Integer.MIN_VALUE;
    static final int MAX = Integer.MAX_VALUE;
    /** No numbers of files or maps where there are three, nor of divisions where there are nine. */
    static final int[] NO_FILE_OR_MAP = {MIN, -2, -1, 3, 4, 5, 29, 30, MAX};
    static final int[] NO_DIVISION = {MIN, -2, -1, 9, 10, 119, 120, MAX};

    /**
     * Three maps, the last one empty, three files, one of SIZE 0; 2 has five links, 3 repeats 0 and
     * 5 repeats 6, 8 has nothing. What was read, checked and printed is not as the map is now.
     */
    static void filled(Run run) {
        run.maps(0, 1, 0).files(10, 0, 100000);
        run.division(0, -1, 5, 0, 0).division(0, 0, 3, 12, 1).division(0, 0, 3, 345, 2);
        run.division(0, -1, 2, 6789, 3).division(1, -1, 0, 7, 4).division(1, 4, 1, 88, 5);
        run.division(1, -1, 9, 9, 6).division(0, 2, 999, 9999, 7).division(0, -1, 999, 1, 8);
        run.link(1, 0, 0, 4, 1).link(1, 0, 4, 12, 2).link(6, 0, 3, 8, 1);
        run.link(2, 2, 0, 1, 1).link(2, 2, 1, 2, 2).link(2, 2, 2, 3, 3).link(2, 2, 3, 4, 4);
        run.link(2, 2, 4, 5, 5).repeat(3, 0, 1).repeat(5, 6, 1);
        run.read(0, 14).check(0, 7).print(0, 26);
        run.link(7, 1, 0, 2, 1).size(0, 11, 10).move(8, 7, 1);
    }

    /** Fewer of all, so that a full row of one kind has room in a run beside them. */
    static void few(Run run) {
        run.maps(0).files(7).tree(0, 0, -1, 0, -1).link(1, 0, 0, 5, 1).repeat(2, 0, 1);
        run.read(0, 2).check(0, 2).print(0, 8);
        run.link(1, 0, 6, 7, 2).division(0, -1, 0, 4, 3);
    }

    /**
     * 0 with 1 .. 8 under it, and 9 .. 107 that repeat it: 9 + 99 * 10 = 999 divisions are come to,
     * none with a link. The 1000th is 108, the 1001st 109.
     */
    static void toThe1001st(Run run) {
        run.division(0, -1, 0, 0, 0).row(0, 0, 1, 8).row(0, -1, 9, 109);
        for (int n = 9; n <= 107; n++) {
            run.repeat(n, 0, 1);
        }
    }
}
