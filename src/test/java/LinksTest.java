/** Promise 6: link. */
public final class LinksTest {
    public static void main(String[] args) {
        StructureMap x = new StructureMap();
        x.map(0);
        x.file(3);
        x.division(0, -1, 0, 0);
        x.division(0, -1, 1, 0);
        x.division(0, -1, 2, 0);
        x.repeat(1, 0);
        Due.same("division 3", x.link(3, 0, 0, 1), -1);
        Due.same("division -1", x.link(-1, 0, 0, 1), -1);
        Due.same("file 1", x.link(0, 1, 0, 1), -1);
        Due.same("file -1", x.link(0, -1, 0, 1), -1);
        Due.same("file MAX", x.link(0, Integer.MAX_VALUE, 0, 1), -1);
        Due.same("from -1", x.link(0, 0, -1, 1), -2);
        Due.same("from as to", x.link(0, 0, 1, 1), -2);
        Due.same("from behind to", x.link(0, 0, 2, 1), -2);
        Due.same("from MIN", x.link(0, 0, Integer.MIN_VALUE, Integer.MAX_VALUE), -2);
        Due.same("to 100001", x.link(0, 0, 0, 100001), -2);
        Due.same("of a repeating one", x.link(1, 0, 0, 1), -3);
        Due.same("none and range", x.link(0, 1, 1, 1), -1);
        Due.same("none and state", x.link(1, 1, 0, 1), -1);
        Due.same("range and state", x.link(1, 0, 1, 1), -2);
        Due.same("about(0, 4): nothing happened", x.about(0, 4), 0);
        Due.same("link 1, beyond the size", x.link(0, 0, 0, 100000), 1);
        Due.same("link 2", x.link(0, 0, 99999, 100000), 2);
        Due.same("link 3", x.link(0, 0, 0, 1), 3);
        Due.same("link 4", x.link(0, 0, 0, 1), 4);
        Due.same("link 5", x.link(0, 0, 1, 2), 5);
        Due.same("link 6", x.link(0, 0, 0, 1), -4);
        Due.same("link 6 and range", x.link(0, 0, 0, 0), -2);
        Due.same("about(0, 4): five", x.about(0, 4), 5);
        Due.same("of another one", x.link(2, 0, 0, 1), 1);
        Due.same("one with links may have some under it", x.division(0, 0, 0, 0), 3);
        Due.same("one with some under it may have links", x.division(0, 2, 0, 0), 4);
        Due.same("as it may", x.link(2, 0, 0, 1), 2);
        Due.end();
    }
}
