/** Promises 10 and 11: read, step. */
public final class ReadTest {
    public static void main(String[] args) {
        inOrder();
        repeats();
        asItWasThen();
        endsBehindThe1000th();
        countsTheRepeating();
        longChainOfRepeats();
        Due.end();
    }

    private static void inOrder() {
        StructureMap x = new StructureMap();
        x.map(1);
        x.map(0);
        x.file(4);
        x.file(0);
        Due.same("an empty map", x.read(0), 0);
        Due.same("step(0, 0) of none", x.step(0, 0), -1);
        x.division(0, -1, 5, 0);
        x.division(0, 0, 1, 0);
        x.division(0, -1, 2, 0);
        x.link(1, 1, 7, 9);
        x.link(0, 0, 3, 4);
        x.link(2, 0, 1, 100000);
        x.link(0, 0, 0, 1);
        Due.same("read(0)", x.read(0), 4);
        Due.step("first", x, 0, 2, 0, 1, 100000, 2);
        Due.step("over", x, 1, 0, 0, 3, 4, 0);
        Due.step("its second, by its coming", x, 2, 0, 0, 0, 1, 0);
        Due.step("under", x, 3, 1, 1, 7, 9, 1);
        Due.same("step(4, 0)", x.step(4, 0), -1);
        Due.same("step(-1, 0)", x.step(-1, 0), -1);
        Due.same("step(MAX, 0)", x.step(Integer.MAX_VALUE, 0), -1);
        Due.same("step(0, 5)", x.step(0, 5), -1);
        Due.same("step(0, -1)", x.step(0, -1), -1);
        Due.same("read(2)", x.read(2), -1);
        Due.same("read(-1)", x.read(-1), -1);
        Due.step("still, after no reading", x, 3, 1, 1, 7, 9, 1);
        Due.same("read(1)", x.read(1), 0);
        Due.same("step(0, 0) of the other", x.step(0, 0), -1);
    }

    /** 0 (1, 2 = 3), 3 (4, 5 = 6), 6 (7), 8 = 0. */
    private static void repeats() {
        StructureMap x = new StructureMap();
        x.map(0);
        x.file(9);
        int[] under = {-1, 0, 0, -1, 3, 3, -1, 6, -1};
        for (int n = 0; n < under.length; n++) {
            x.division(0, under[n], n, n);
        }
        x.repeat(2, 3);
        x.repeat(5, 6);
        x.repeat(8, 0);
        x.link(1, 0, 1, 2);
        x.link(4, 0, 4, 5);
        x.link(7, 0, 7, 8);
        x.link(7, 0, 6, 9);
        int[] owners = {1, 4, 7, 7, 4, 7, 7, 7, 7, 1, 4, 7, 7};
        int[] places = {1, 2, 2, 2, 4, 5, 5, 7, 7, 8, 8, 8, 8};
        Due.same("read(0)", x.read(0), owners.length);
        for (int i = 0; i < owners.length; i++) {
            Due.same("step(" + i + ", 0)", x.step(i, 0), owners[i]);
            Due.same("step(" + i + ", 4)", x.step(i, 4), places[i]);
        }
        Due.step("the second link", x, 12, 7, 0, 6, 9, 8);
    }

    private static void asItWasThen() {
        StructureMap x = new StructureMap();
        x.map(0);
        x.file(9);
        x.division(0, -1, 0, 0);
        x.division(0, -1, 1, 0);
        x.link(0, 0, 1, 2);
        x.link(1, 0, 3, 4);
        Due.same("read(0)", x.read(0), 2);
        x.link(0, 0, 5, 6);
        x.division(0, -1, 0, 0);
        x.repeat(2, 1);
        x.move(0, 1);
        x.size(0, 1);
        x.map(0);
        x.check(0);
        x.print(0);
        x.differ(0, 1);
        Due.step("as it was", x, 0, 0, 0, 1, 2, 0);
        Due.step("as it was", x, 1, 1, 0, 3, 4, 1);
        Due.same("no third", x.step(2, 0), -1);
        Due.same("read(0) now", x.read(0), 6);
        Due.step("as it is", x, 0, 1, 0, 3, 4, 2);
        Due.step("as it is", x, 5, 0, 0, 5, 6, 0);
    }

    /** Each level repeats the one before it twice: 1 + 2 * (..) + .. divisions, past 1000 soon. */
    private static void endsBehindThe1000th() {
        StructureMap x = new StructureMap();
        x.map(0);
        x.file(1);
        x.division(0, -1, 999, 0);
        for (int n = 0; n < 5; n++) {
            x.link(0, 0, 0, 1);
        }
        int below = 0;
        for (int level = 1; level < 12; level++) {
            int next = x.division(0, -1, 999 - level, 0);
            x.repeat(x.division(0, next, 0, 0), below);
            x.repeat(x.division(0, next, 1, 0), below);
            below = next;
        }
        Due.same("read(0)", x.read(0), stepsOfDoubling(11));
        Due.same("step behind the last", x.step(stepsOfDoubling(11), 0), -1);
    }

    /** The same counted by a loop of its own: what a 'level' is read as, cut behind the 1000th. */
    private static int stepsOfDoubling(int top) {
        int[] left = {1000};
        int steps = 0;
        for (int level = top; level >= 0; level--) {
            steps += stepsOfLevel(level, left);
        }
        return steps;
    }

    private static int stepsOfLevel(int level, int[] left) {
        if (left[0] == 0) {
            return 0;
        }
        left[0]--;
        if (level == 0) {
            return 5;
        }
        int steps = 0;
        for (int n = 0; n < 2 && left[0] > 0; n++) {
            left[0]--;
            steps += stepsOfLevel(level - 1, left);
        }
        return steps;
    }

    /** 0 (50 with a link each); then each of 30 that repeats 0 comes to 1 + 51 divisions. */
    private static void countsTheRepeating() {
        StructureMap x = new StructureMap();
        x.map(1);
        x.file(1);
        x.division(0, -1, 0, 0);
        for (int n = 1; n <= 50; n++) {
            x.division(0, 0, n, n);
            x.link(n, 0, 0, n);
        }
        for (int n = 51; n <= 68; n++) {
            x.division(0, -1, n, n);
            x.repeat(n, 0);
        }
        // 51 + 18 * 52 = 987 divisions, 19 * 50 steps
        Due.same("987 divisions", x.read(0), 950);
        x.division(0, -1, 69, 69);
        x.repeat(69, 0);
        // the 988th is 69, the 989th 0, the 990th to 1000th 1 to 11
        Due.same("cut in a repeated one", x.read(0), 961);
        Due.step("the last step is whole", x, 960, 11, 0, 0, 11, 69);
        x.link(11, 0, 1, 2);
        Due.same("the 1000th has all its steps", x.read(0), 950 + 19 + 12);
        x.link(12, 0, 1, 2);
        Due.same("the 1001st has none", x.read(0), 950 + 19 + 12 + 19);
    }

    private static void longChainOfRepeats() {
        StructureMap x = new StructureMap();
        x.map(0);
        x.file(1);
        x.division(0, -1, 0, 0);
        x.link(0, 0, 0, 1);
        for (int n = 1; n < 120; n++) {
            x.division(0, -1, n, 0);
            x.repeat(n, n - 1);
        }
        // 1 + 2 + .. + 44 = 990 divisions, and the next one needs 45
        Due.same("read(0)", x.read(0), 44);
        Due.step("the last", x, 43, 0, 0, 0, 1, 43);
        StructureMap y = new StructureMap();
        y.map(0);
        y.file(1);
        for (int n = 0; n < 120; n++) {
            y.division(0, -1, 119 - n, 0);
        }
        y.link(0, 0, 0, 1);
        for (int n = 1; n < 120; n++) {
            y.repeat(n, n - 1);
        }
        // 120 + 119 + .. + 112 = 1044 would be nine; eight are 932
        Due.same("read(0) from the longest", y.read(0), 8);
        Due.step("the last", y, 7, 0, 0, 0, 1, 112);
    }
}
