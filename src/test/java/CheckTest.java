/** Promises 12 and 13: check, fault. */
public final class CheckTest {
    public static void main(String[] args) {
        ofDivisions();
        ofFiles();
        edgesOfSizes();
        bySteps();
        wrongCalls();
        most();
        behindThe1000th();
        Due.end();
    }

    private static void ofDivisions() {
        StructureMap x = new StructureMap();
        x.map(1);
        x.map(1);
        x.file(5);
        Due.faults("empty", x, 0);
        x.division(0, -1, 3, 0);
        Due.faults("1: nothing in it", x, 0, 1, 0);
        x.division(0, 0, 3, 0);
        Due.faults("1: something under it", x, 0, 1, 1);
        x.link(1, 0, 0, 5);
        Due.faults("to the very size", x, 0);
        x.division(1, -1, 3, 0);
        Due.faults("2: not of another map", x, 0);
        Due.faults("1: of the other map", x, 1, 1, 2);
        x.division(0, -1, 3, 0);
        x.division(0, -1, 3, 0);
        Due.faults("2: the higher ones", x, 0, 1, 3, 2, 3, 1, 4, 2, 4);
        x.repeat(3, 0);
        Due.faults("1: repeats one", x, 0, 2, 3, 1, 4, 2, 4);
        x.link(4, 0, 0, 6);
        x.link(4, 0, 0, 7);
        Due.faults("3: once for a division", x, 0, 2, 3, 2, 4, 3, 4);
        x.move(0, 4);
        Due.faults("2: under another one", x, 0, 2, 4, 3, 4);
        x.move(1, 4);
        Due.faults("2: the first of two under one", x, 0, 1, 0, 2, 1, 2, 4, 3, 4);
        x.size(0, 4);
        Due.faults("3: another size", x, 0, 1, 0, 2, 1, 3, 1, 2, 4, 3, 4);
        x.size(0, 7);
        Due.faults("3: none", x, 0, 1, 0, 2, 1, 2, 4);
        x.division(1, -1, 5, 0);
        x.division(1, -1, 4, 0);
        x.division(1, -1, 5, 0);
        Due.faults("2: as one that is not the first", x, 1, 1, 2, 1, 5, 1, 6, 1, 7, 2, 7);
    }

    private static void ofFiles() {
        StructureMap x = new StructureMap();
        x.map(0);
        x.map(1);
        x.file(10);
        x.file(0);
        x.file(1);
        Due.faults("5: no division at all", x, 0, 5, 0, 5, 2);
        Due.faults("not of a logical map", x, 1);
        x.division(0, -1, 0, 0);
        x.link(0, 0, 6, 10);
        x.link(0, 0, 0, 5);
        x.link(0, 2, 0, 1);
        Due.faults("5: a place between", x, 0, 5, 0);
        x.link(0, 0, 5, 6);
        Due.faults("side by side", x, 0);
        x.link(0, 2, 0, 1);
        Due.faults("4: the same twice", x, 0, 4, 2);
        x.division(0, -1, 1, 0);
        x.link(1, 0, 9, 10);
        Due.faults("4: the last place", x, 0, 4, 0, 4, 2);
        x.size(0, 100000);
        Due.faults("4 and 5 of one file", x, 0, 4, 0, 5, 0, 4, 2);
        x.size(0, 0);
        Due.faults("a file of no places", x, 0, 3, 0, 3, 1, 4, 2);
        x.division(1, -1, 0, 0);
        x.link(2, 2, 0, 1);
        x.link(2, 2, 0, 1);
        Due.faults("a logical map twice", x, 1);
        x.map(0);
        Due.faults("links of other maps do not count", x, 2, 5, 2);
    }

    private static void edgesOfSizes() {
        StructureMap x = new StructureMap();
        x.map(0);
        x.file(10);
        x.division(0, -1, 0, 0);
        x.link(0, 0, 0, 12);
        x.link(0, 0, 10, 20);
        x.link(0, 0, 11, 15);
        Due.faults("4: behind the size is no place of the file", x, 0, 3, 0);
        x.size(0, 11);
        Due.faults("4: now it is", x, 0, 3, 0, 4, 0);
        x.size(0, 30);
        Due.faults("5: behind all", x, 0, 4, 0, 5, 0);
        StructureMap y = new StructureMap();
        y.map(0);
        y.file(100000);
        y.division(0, -1, 0, 0);
        y.link(0, 0, 1, 100000);
        Due.faults("5: the first place", y, 0, 5, 0);
        y.link(0, 0, 0, 1);
        Due.faults("all", y, 0);
        y.link(0, 0, 99999, 100000);
        Due.faults("4: the last place", y, 0, 4, 0);
        StructureMap z = new StructureMap();
        z.map(0);
        z.file(10);
        z.division(0, -1, 0, 0);
        z.link(0, 0, 0, 10);
        z.link(0, 0, 2, 3);
        z.link(0, 0, 4, 5);
        Due.faults("5: a long one reaches over short ones", z, 0, 4, 0);
    }

    private static void bySteps() {
        StructureMap x = new StructureMap();
        x.map(0);
        x.file(4);
        x.division(0, -1, 0, 0);
        x.division(0, 0, 0, 0);
        x.division(0, -1, 1, 0);
        x.link(1, 0, 0, 4);
        x.read(0);
        Due.faults("each place once", x, 0, 1, 2);
        x.repeat(2, 0);
        Due.faults("4: a step again by repeating", x, 0, 4, 0);
        Due.same("a check reads for itself", x.step(1, 0), -1);
        Due.same("the step before it stays", x.step(0, 3), 4);
    }

    private static void wrongCalls() {
        StructureMap x = new StructureMap();
        x.map(1);
        Due.throwsIndex("before a check", x, 0, 0);
        x.division(0, -1, 0, 0);
        x.division(0, -1, 0, 0);
        Due.faults("three", x, 0, 1, 0, 1, 1, 2, 1);
        Due.same("check(1)", x.check(1), -1);
        Due.same("check(-1)", x.check(-1), -1);
        Due.same("check(MAX)", x.check(Integer.MAX_VALUE), -1);
        Due.same("the check before stays", x.fault(2, 0), 2);
        x.move(1, 0);
        Due.same("and stays when the map changes", x.fault(2, 1), 1);
        Due.throwsIndex("fault(-1, 0)", x, -1, 0);
        Due.throwsIndex("fault(3, 0)", x, 3, 0);
        Due.throwsIndex("fault(0, 2)", x, 0, 2);
        Due.throwsIndex("fault(0, -1)", x, 0, -1);
        Due.throwsIndex("fault(MAX, 0)", x, Integer.MAX_VALUE, 0);
        Due.throwsIndex("fault(MIN, MIN)", x, Integer.MIN_VALUE, Integer.MIN_VALUE);
        x.map(1);
        Due.same("check(1), without faults", x.check(1), 0);
        Due.throwsIndex("fault(0, 0) of none", x, 0, 0);
    }

    private static void most() {
        StructureMap x = new StructureMap();
        x.map(0);
        for (int n = 0; n < 30; n++) {
            x.file(2);
        }
        for (int n = 0; n < 120; n++) {
            x.division(0, -1, 0, 0);
        }
        for (int n = 0; n < 30; n++) {
            x.link(n, n, 0, 1);
            x.link(n, n, 0, 1);
        }
        Due.same("check(0)", x.check(0), 29 + 180 + 60);
        Due.same("the first", x.fault(0, 1), 1);
        Due.same("the last of divisions", x.fault(208, 0), 2);
        Due.same("the last of divisions", x.fault(208, 1), 119);
        Due.same("the first of files", x.fault(209, 0), 4);
        Due.same("the last", x.fault(268, 0), 5);
        Due.same("the last", x.fault(268, 1), 29);
        Due.throwsIndex("behind it", x, 269, 0);
    }

    /** What is not read any more is in no STEP. */
    private static void behindThe1000th() {
        StructureMap x = new StructureMap();
        x.map(0);
        x.file(1);
        x.file(1);
        x.division(0, -1, 0, 0);
        for (int n = 1; n <= 48; n++) {
            x.division(0, 0, n, n);
            x.link(n, 0, 2, 3);
        }
        for (int n = 49; n <= 67; n++) {
            x.division(0, -1, n, n);
            x.repeat(n, 0);
        }
        // 49 + 19 * 50 = 999 divisions: the 1000th is 68, the 1001st 69
        x.division(0, -1, 68, 0);
        x.link(68, 0, 0, 1);
        x.division(0, -1, 69, 0);
        x.link(69, 1, 0, 1);
        x.link(69, 0, 0, 1);
        Due.same("read(0)", x.read(0), 20 * 48 + 1);
        Due.same("check(0)", x.check(0), 48 + 1);
        Due.same("the last: file 1 is in none", x.fault(48, 0), 5);
        Due.same("the last: file 1 is in none", x.fault(48, 1), 1);
        x.size(0, 3);
        Due.same("check(0) with the place 2", x.check(0), 3);
        Due.same("4 of file 0", x.fault(0, 0), 4);
        Due.same("5 of file 0", x.fault(1, 0), 5);
    }
}
