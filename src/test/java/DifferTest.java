/** Promise 16: differ. */
public final class DifferTest {
    public static void main(String[] args) {
        StructureMap x = new StructureMap();
        x.map(0);
        x.map(1);
        x.map(0);
        Due.same("two empty ones", x.differ(0, 1), 0);
        x.division(0, -1, 1, 7);
        both(x, "one has none", 0, 1, 1);
        x.division(1, -1, 900, 7);
        both(x, "the same label, whatever the order and number", 0, 1, 0);
        x.division(0, 0, 1, 8);
        x.division(1, -1, 901, 8);
        both(x, "under fewer", 0, 1, 1);
        x.move(3, 1);
        both(x, "under as many", 0, 1, 0);
        x.division(0, -1, 2, 9);
        x.division(1, -1, 902, 10);
        both(x, "another label", 0, 1, 1);
        x.division(0, -1, 0, 3);
        both(x, "by places: one in front moves all", 0, 1, 4);
        x.move(6, -1);
        x.division(1, -1, 0, 3);
        both(x, "in front of both", 0, 1, 1);
        x.repeat(4, 0);
        x.file(1);
        x.link(7, 0, 0, 1);
        both(x, "repeats and links do not count", 0, 1, 1);
        both(x, "with an empty one", 0, 2, 4);
        both(x, "with itself", 0, 0, 0);
        Due.same("differ(0, 3)", x.differ(0, 3), -1);
        Due.same("differ(3, 0)", x.differ(3, 0), -1);
        Due.same("differ(-1, 0)", x.differ(-1, 0), -1);
        Due.same("differ(0, -1)", x.differ(0, -1), -1);
        Due.same("differ(MAX, MIN)", x.differ(Integer.MAX_VALUE, Integer.MIN_VALUE), -1);
        manyAndOne();
        Due.end();
    }

    private static void both(StructureMap x, String name, int map, int other, int want) {
        Due.same(name, x.differ(map, other), want);
        Due.same(name + ", the other way", x.differ(other, map), want);
    }

    private static void manyAndOne() {
        StructureMap x = new StructureMap();
        x.map(0);
        x.map(0);
        for (int n = 0; n < 119; n++) {
            x.division(0, -1, n, n);
        }
        x.division(1, -1, 0, 0);
        both(x, "119 and 1", 0, 1, 118);
    }
}
