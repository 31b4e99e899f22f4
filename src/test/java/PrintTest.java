/** Promises 14 and 15: print, at. */
public final class PrintTest {
    public static void main(String[] args) {
        StructureMap x = new StructureMap();
        x.map(0);
        x.map(1);
        Due.printed("empty", x, 0, "");
        x.division(0, -1, 5, 0);
        x.division(0, 0, 5, 9999);
        x.division(0, 1, 5, 10);
        x.division(0, -1, 4, 100);
        x.division(0, 0, 4, 1000);
        x.division(0, 4, 4, 907);
        x.division(1, -1, 4, 6);
        x.repeat(3, 1);
        x.repeat(5, 2);
        String text = "100=\n0\n 1000\n  907=\n 9999\n  10\n";
        Due.printed("a map", x, 0, text);
        Due.same("print(2)", x.print(2), -1);
        Due.same("print(-1)", x.print(-1), -1);
        x.division(0, -1, 0, 1);
        x.move(2, -1);
        Due.stillPrinted("as it was then", x, text);
        Due.same("at(-1)", x.at(-1), -1);
        Due.same("at(MAX)", x.at(Integer.MAX_VALUE), -1);
        Due.same("at(MIN)", x.at(Integer.MIN_VALUE), -1);
        Due.printed("the other", x, 1, "6\n");
        Due.printed("as it is", x, 0, "1\n100=\n0\n 1000\n  907=\n 9999\n10\n");
        longest();
        Due.end();
    }

    private static void longest() {
        StructureMap x = new StructureMap();
        x.map(1);
        for (int n = 0; n < 119; n++) {
            x.division(0, n - 1, 0, 9999);
        }
        x.division(0, 117, 1, 9998);
        x.repeat(119, 118);
        // 118 is under 118 others, 119 beside it: 0 + .. + 118 + 118 blanks
        int signs = 118 * 119 / 2 + 118 + 120 * 5 + 1;
        Due.same("print(0)", x.print(0), signs);
        Due.same("the last", x.at(signs - 1), 10);
        Due.same("behind it", x.at(signs), -1);
        Due.same("the last sign =", x.at(signs - 2), '=');
        Due.same("the last label", x.at(signs - 3), '8');
        Due.same("the last sign 32", x.at(signs - 7), ' ');
        Due.same("the first of them", x.at(signs - 6 - 118), ' ');
        Due.same("the end of the line before", x.at(signs - 7 - 118), '\n');
    }
}
