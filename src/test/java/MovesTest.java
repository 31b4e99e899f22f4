/** Promise 8: move. */
public final class MovesTest {
    public static void main(String[] args) {
        moves();
        reasons();
        comesBack();
        Due.end();
    }

    /** 0 (1 (2), 3), 4 in map 0; 5 in map 1. */
    private static StructureMap trees() {
        StructureMap x = new StructureMap();
        x.map(0);
        x.map(1);
        x.division(0, -1, 1, 10);
        x.division(0, 0, 2, 11);
        x.division(0, 1, 3, 12);
        x.division(0, 0, 4, 13);
        x.division(0, -1, 5, 14);
        x.division(1, -1, 0, 15);
        return x;
    }

    private static void moves() {
        StructureMap x = trees();
        Due.order("before", x, 0, 0, 1, 2, 3, 4);
        Due.same("move(3, 2)", x.move(3, 2), 1);
        Due.order("3 under 2", x, 0, 0, 1, 2, 3, 4);
        Due.same("about(3, 1)", x.about(3, 1), 2);
        Due.same("move(1, 4)", x.move(1, 4), 1);
        Due.order("1 under 4", x, 0, 0, 4, 1, 2, 3);
        Due.same("about(0, 6)", x.about(0, 6), 0);
        Due.same("about(4, 6)", x.about(4, 6), 3);
        Due.same("move(2, -1)", x.move(2, -1), 1);
        Due.order("2 at the top, between", x, 0, 0, 2, 3, 4, 1);
        Due.same("move(2, -1) again", x.move(2, -1), 1);
        Due.order("the same", x, 0, 0, 2, 3, 4, 1);
        Due.same("move(3, 2) where it is", x.move(3, 2), 1);
        Due.order("the same", x, 0, 0, 2, 3, 4, 1);
        Due.same("move(0, 3)", x.move(0, 3), 1);
        Due.order("0 under 3", x, 0, 2, 3, 0, 4, 1);
        Due.same("move(1, 3)", x.move(1, 3), 1);
        Due.order("1 behind 0", x, 0, 2, 3, 0, 1, 4);
        Due.same("move(0, -1)", x.move(0, -1), 1);
        Due.order("the first of two goes", x, 0, 0, 2, 3, 1, 4);
        Due.order("the other map", x, 1, 5);
    }

    private static void reasons() {
        StructureMap x = trees();
        x.repeat(4, 1);
        Due.same("no such", x.move(6, -1), -1);
        Due.same("-1", x.move(-1, -1), -1);
        Due.same("no such under", x.move(0, 6), -1);
        Due.same("under -2", x.move(0, -2), -1);
        Due.same("of another map", x.move(0, 5), -3);
        Due.same("from another map", x.move(5, 0), -3);
        Due.same("under a repeating one", x.move(3, 4), -3);
        Due.same("itself", x.move(0, 0), -3);
        Due.same("under it", x.move(0, 1), -3);
        Due.same("far under it", x.move(0, 2), -3);
        Due.order("nothing happened", x, 0, 0, 1, 2, 3, 4);
    }

    private static void comesBack() {
        StructureMap x = trees();
        x.repeat(4, 1);
        Due.same("4 under 1, which it repeats", x.move(4, 1), -3);
        Due.same("4 under 2, under 1", x.move(4, 2), -3);
        Due.same("4 under 0, over 1", x.move(4, 0), 1);
        Due.order("4 beside 1", x, 0, 0, 1, 2, 3, 4);
        Due.same("1 may go up", x.move(1, -1), 1);
        Due.same("1 may come under 3", x.move(1, 3), 1);
        Due.same("0 is over both", x.move(0, 2), -3);
        Due.same("4 to the top", x.move(4, -1), 1);
        Due.same("a division 6", x.division(0, -1, 9, 9), 6);
        Due.same("a division 7", x.division(0, 6, 9, 9), 7);
        Due.same("7 repeats 4", x.repeat(7, 4), 1);
        Due.same("6 under 2: 7 repeats 4 repeats 1 over 2", x.move(6, 2), -3);
        Due.same("7 under 2", x.move(7, 2), -3);
        Due.same("7 under 3, over 1", x.move(7, 3), 1);
        Due.same("6 under 2 now", x.move(6, 2), 1);
        Due.same("3 under 6: under it", x.move(3, 6), -3);
    }
}
