/** Promises 5 and 17: division, about. */
public final class DivisionsTest {
    public static void main(String[] args) {
        numbers();
        reasons();
        full();
        about();
        Due.end();
    }

    private static StructureMap twoMaps() {
        StructureMap x = new StructureMap();
        x.map(0);
        x.map(1);
        return x;
    }

    private static void numbers() {
        StructureMap x = twoMaps();
        Due.same("division(0, -1, 0, 0)", x.division(0, -1, 0, 0), 0);
        Due.same("division(1, -1, 999, 9999)", x.division(1, -1, 999, 9999), 1);
        Due.same("division(0, 0, 5, 6)", x.division(0, 0, 5, 6), 2);
        Due.same("division(0, 2, 5, 6)", x.division(0, 2, 5, 6), 3);
        Due.order("numbers", x, 0, 0, 2, 3);
        Due.order("numbers", x, 1, 1);
    }

    private static void reasons() {
        StructureMap x = twoMaps();
        x.division(0, -1, 0, 0);
        x.division(0, -1, 0, 0);
        x.repeat(1, 0);
        Due.same("map -1", x.division(-1, -1, 0, 0), -1);
        Due.same("map 2", x.division(2, -1, 0, 0), -1);
        Due.same("map MAX", x.division(Integer.MAX_VALUE, -1, 0, 0), -1);
        Due.same("under 2", x.division(0, 2, 0, 0), -1);
        Due.same("under -2", x.division(0, -2, 0, 0), -1);
        Due.same("under MIN", x.division(0, Integer.MIN_VALUE, 0, 0), -1);
        Due.same("order -1", x.division(0, -1, -1, 0), -2);
        Due.same("order 1000", x.division(0, -1, 1000, 0), -2);
        Due.same("label -1", x.division(0, -1, 0, -1), -2);
        Due.same("label 10000", x.division(0, -1, 0, 10000), -2);
        Due.same("under another map's", x.division(1, 0, 0, 0), -3);
        Due.same("under a repeating one", x.division(0, 1, 0, 0), -3);
        Due.same("under a repeated one", x.division(0, 0, 0, 0), 2);
        Due.same("no map and range", x.division(2, -1, -1, 0), -1);
        Due.same("none under and range", x.division(0, 9, -1, 0), -1);
        Due.same("range and state", x.division(1, 0, 1000, 0), -2);
        Due.same("about(3, 0): nothing happened", x.about(3, 0), -1);
    }

    private static void full() {
        StructureMap x = twoMaps();
        for (int n = 0; n < 120; n++) {
            Due.same("division no. " + n, x.division(n % 2, -1, n, n), n);
        }
        Due.same("the 121st", x.division(0, -1, 0, 0), -4);
        Due.same("the 121st, range", x.division(0, -1, 0, -1), -2);
        Due.same("the 121st, state", x.division(0, 1, 0, 0), -3);
        Due.same("the 121st, none", x.division(0, 120, 0, 0), -1);
        Due.same("about(119, 3)", x.about(119, 3), 119);
        Due.same("about(120, 3)", x.about(120, 3), -1);
        Due.same("order(0, 59)", x.order(0, 59), 118);
        Due.same("order(0, 60)", x.order(0, 60), -1);
    }

    private static void about() {
        StructureMap x = twoMaps();
        x.file(9);
        x.division(1, -1, 7, 123);
        x.division(1, 0, 8, 9999);
        x.division(1, 1, 9, 0);
        x.division(1, 1, 999, 5);
        x.division(1, -1, 3, 4);
        x.division(1, 0, 2, 1);
        x.link(2, 0, 0, 1);
        x.link(2, 0, 0, 1);
        x.repeat(4, 1);
        int[][] want = {
            {1, -1, 7, 123, 0, -1, 4}, {1, 0, 8, 9999, 0, -1, 2}, {1, 1, 9, 0, 2, -1, 0},
            {1, 1, 999, 5, 0, -1, 0}, {1, -1, 3, 4, 0, 1, 0}, {1, 0, 2, 1, 0, -1, 0}};
        for (int d = 0; d < want.length; d++) {
            for (int what = 0; what < 7; what++) {
                Due.same("about(" + d + ", " + what + ")", x.about(d, what), want[d][what]);
            }
            Due.same("about(" + d + ", 7)", x.about(d, 7), -1);
            Due.same("about(" + d + ", -1)", x.about(d, -1), -1);
        }
        Due.same("about(6, 0)", x.about(6, 0), -1);
        Due.same("about(-1, 0)", x.about(-1, 0), -1);
        Due.same("about(MIN, 0)", x.about(Integer.MIN_VALUE, 0), -1);
        x.move(1, -1);
        Due.same("about(0, 6) after a move", x.about(0, 6), 1);
        Due.same("about(1, 6) after a move", x.about(1, 6), 2);
        Due.same("about(1, 1) after a move", x.about(1, 1), -1);
    }
}
