/** Promise 9: order. */
public final class OrderTest {
    public static void main(String[] args) {
        StructureMap x = new StructureMap();
        x.map(0);
        x.map(1);
        Due.order("an empty map", x, 0);
        x.division(0, -1, 9, 0);
        x.division(0, -1, 3, 0);
        x.division(1, -1, 0, 0);
        x.division(0, -1, 9, 0);
        x.division(0, 0, 5, 0);
        x.division(0, 0, 4, 0);
        x.division(0, 3, 0, 0);
        x.division(0, 0, 4, 0);
        x.division(0, 5, 999, 0);
        x.division(0, -1, 3, 0);
        Due.order("by orders, then numbers", x, 0, 1, 9, 0, 5, 8, 7, 4, 3, 6);
        Due.order("the other map", x, 1, 2);
        x.move(3, 0);
        x.move(3, -1);
        x.move(0, -1);
        Due.order("numbers count, not when they came", x, 0, 1, 9, 0, 5, 8, 7, 4, 3, 6);
        x.repeat(1, 0);
        Due.order("what is repeated is not in it", x, 0, 1, 9, 0, 5, 8, 7, 4, 3, 6);
        Due.same("order(0, -1)", x.order(0, -1), -1);
        Due.same("order(0, MAX)", x.order(0, Integer.MAX_VALUE), -1);
        Due.same("order(0, MIN)", x.order(0, Integer.MIN_VALUE), -1);
        Due.same("order(2, 0)", x.order(2, 0), -1);
        Due.same("order(-1, 0)", x.order(-1, 0), -1);
        deepest();
        Due.end();
    }

    private static void deepest() {
        StructureMap x = new StructureMap();
        x.map(0);
        for (int n = 0; n < 120; n++) {
            x.division(0, n - 1, 0, 0);
        }
        Due.same("the deepest", x.order(0, 119), 119);
        Due.same("about(0, 6)", x.about(0, 6), 119);
        Due.same("about(60, 6)", x.about(60, 6), 59);
        Due.same("move(0, 119)", x.move(0, 119), -3);
        Due.same("move(119, -1)", x.move(119, -1), 1);
        Due.same("order(0, 119)", x.order(0, 119), 119);
    }
}
