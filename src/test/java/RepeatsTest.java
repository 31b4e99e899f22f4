/** Promise 7: repeat. */
public final class RepeatsTest {
    public static void main(String[] args) {
        reasons();
        comesBack();
        byManyWays();
        longChain();
        Due.end();
    }

    private static void reasons() {
        StructureMap x = new StructureMap();
        x.map(0);
        x.map(1);
        x.file(1);
        x.division(0, -1, 0, 0);
        x.division(0, 0, 0, 0);
        x.division(0, 1, 0, 0);
        x.division(1, -1, 0, 0);
        x.division(0, -1, 0, 0);
        x.division(0, -1, 0, 0);
        x.division(0, -1, 0, 0);
        x.link(4, 0, 0, 1);
        Due.same("no such", x.repeat(7, 0), -1);
        Due.same("no such other", x.repeat(5, 7), -1);
        Due.same("-1", x.repeat(-1, 0), -1);
        Due.same("other -1", x.repeat(5, -1), -1);
        Due.same("none before state", x.repeat(4, 7), -1);
        Due.same("with links", x.repeat(4, 0), -3);
        Due.same("with some under it", x.repeat(0, 5), -3);
        Due.same("one under it", x.repeat(0, 2), -3);
        Due.same("itself", x.repeat(5, 5), -3);
        Due.same("one that it is under", x.repeat(2, 1), -3);
        Due.same("one that it is under, far up", x.repeat(2, 0), -3);
        Due.same("of another map", x.repeat(5, 3), -3);
        Due.same("from another map", x.repeat(3, 5), -3);
        Due.same("about(5, 5): nothing happened", x.about(5, 5), -1);
        Due.same("5 repeats 0", x.repeat(5, 0), 1);
        Due.same("about(5, 5)", x.about(5, 5), 0);
        Due.same("already", x.repeat(5, 1), -3);
        Due.same("the same again", x.repeat(5, 0), -3);
        Due.same("two repeat one", x.repeat(6, 0), 1);
        Due.same("one with links is repeated", x.repeat(2, 4), 1);
    }

    private static void comesBack() {
        StructureMap x = new StructureMap();
        x.map(1);
        x.division(0, -1, 0, 0);
        x.division(0, 0, 0, 0);
        x.division(0, -1, 0, 0);
        x.division(0, 2, 0, 0);
        x.division(0, 2, 0, 0);
        x.division(0, -1, 0, 0);
        Due.same("1 under 0 repeats 2", x.repeat(1, 2), 1);
        Due.same("3 under 2 repeats 0, which comes to 2", x.repeat(3, 0), -3);
        Due.same("3 under 2 repeats 1, which repeats 2", x.repeat(3, 1), -3);
        Due.same("3 under 2 repeats 4 beside it", x.repeat(3, 4), 1);
        Due.same("4 repeats 3, which repeats it", x.repeat(4, 3), -3);
        Due.same("4 repeats 5", x.repeat(4, 5), 1);
        Due.same("5 repeats 0, which comes to it by 1, 2, 3, 4", x.repeat(5, 0), -3);
        Due.same("a division under 5", x.division(0, 5, 0, 0), 6);
        Due.same("6 under 5 repeats 3, which comes to 5", x.repeat(6, 3), -3);
        Due.same("6 is at the top", x.move(6, -1), 1);
        Due.same("6 repeats 3", x.repeat(6, 3), 1);
        Due.same("5 repeats 6, which comes to it", x.repeat(5, 6), -3);
    }

    /** 0; then 12 times one with eight under it, all of which repeat the one before. */
    private static void byManyWays() {
        StructureMap x = new StructureMap();
        x.map(1);
        int before = x.division(0, -1, 0, 0);
        for (int level = 1; level <= 12; level++) {
            int next = x.division(0, -1, level, 0);
            for (int n = 0; n < 8; n++) {
                Due.same("repeat(.., " + before + ")", x.repeat(x.division(0, next, n, 0), before), 1);
            }
            before = next;
        }
        Due.same("0 repeats the last", x.repeat(0, before), -3);
        Due.same("a free one", x.repeat(x.division(0, -1, 99, 0), before), 1);
        int pair = x.division(0, -1, 100, 0);
        Due.same("the first of two", x.division(0, pair, 0, 0), pair + 1);
        Due.same("the second of two repeats 0", x.repeat(x.division(0, pair, 1, 0), 0), 1);
        Due.same("0 repeats the pair, whose second repeats it", x.repeat(0, pair), -3);
        Due.same("0 repeats the first", x.repeat(0, pair + 1), 1);
    }

    private static void longChain() {
        StructureMap x = new StructureMap();
        x.map(1);
        for (int n = 0; n < 120; n++) {
            x.division(0, -1, n, n);
        }
        for (int n = 1; n < 120; n++) {
            Due.same("repeat(" + n + ", " + (n - 1) + ")", x.repeat(n, n - 1), 1);
        }
        Due.same("the first the last", x.repeat(0, 119), -3);
        Due.same("the first the second", x.repeat(0, 1), -3);
    }
}
