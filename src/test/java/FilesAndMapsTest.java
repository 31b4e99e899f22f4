/** Promises 2, 3 and 4: file, size, map. */
public final class FilesAndMapsTest {
    public static void main(String[] args) {
        files();
        sizes();
        maps();
        Due.end();
    }

    private static void files() {
        StructureMap x = new StructureMap();
        Due.same("file(-1)", x.file(-1), -2);
        Due.same("file(100001)", x.file(100001), -2);
        Due.same("file(MIN)", x.file(Integer.MIN_VALUE), -2);
        Due.same("file(MAX)", x.file(Integer.MAX_VALUE), -2);
        Due.same("file(0)", x.file(0), 0);
        Due.same("file(100000)", x.file(100000), 1);
        for (int n = 2; n < 30; n++) {
            Due.same("file no. " + n, x.file(n), n);
        }
        Due.same("the 31st file", x.file(5), -4);
        Due.same("the 31st file of a wrong size: the first reason", x.file(-5), -2);
        Due.same("size(29, 1)", x.size(29, 1), 29);
        Due.same("size(30, 1)", x.size(30, 1), -1);
    }

    private static void sizes() {
        StructureMap x = new StructureMap();
        x.file(12);
        x.file(100000);
        Due.same("size(0, 100000)", x.size(0, 100000), 12);
        Due.same("size(0, 0)", x.size(0, 0), 100000);
        Due.same("size(0, 3)", x.size(0, 3), 0);
        Due.same("size(0, -1)", x.size(0, -1), -2);
        Due.same("size(0, 100001)", x.size(0, 100001), -2);
        Due.same("size after wrong ones", x.size(0, 4), 3);
        Due.same("size of another file", x.size(1, 4), 100000);
        Due.same("size(-1, 4)", x.size(-1, 4), -1);
        Due.same("size(2, 4)", x.size(2, 4), -1);
        Due.same("size(2, -4): the first reason", x.size(2, -4), -1);
        Due.same("size(MAX, 4)", x.size(Integer.MAX_VALUE, 4), -1);
        Due.same("size(MIN, 4)", x.size(Integer.MIN_VALUE, 4), -1);
    }

    private static void maps() {
        StructureMap x = new StructureMap();
        Due.same("map(-1)", x.map(-1), -2);
        Due.same("map(2)", x.map(2), -2);
        for (int n = 0; n < 5; n++) {
            Due.same("map no. " + n, x.map(n % 2), n);
        }
        Due.same("the 6th map", x.map(0), -4);
        Due.same("the 6th map of a wrong kind: the first reason", x.map(2), -2);
        Due.same("print(4)", x.print(4), 0);
        Due.same("print(5)", x.print(5), -1);
    }
}
