/** What the tests share: a count of wrong answers, and the exit code that tells of them. */
final class Due {
    private static int wrong = 0;
    private static int asked = 0;

    private Due() {
    }

    static void same(String call, long got, long want) {
        asked++;
        if (got != want) {
            wrong++;
            System.out.println(call + " answered " + got + ", due is " + want);
        }
    }

    static void throwsIndex(String call, StructureMap x, int i, int what) {
        asked++;
        try {
            int got = x.fault(i, what);
            wrong++;
            System.out.println(call + " answered " + got + ", due is IndexOutOfBoundsException");
        } catch (IndexOutOfBoundsException e) {
            if (e.getClass() != IndexOutOfBoundsException.class) {
                wrong++;
                System.out.println(call + " threw " + e);
            }
        }
    }

    /** The faults of the latest check, as which and where in turn, and none behind them. */
    static void faults(String name, StructureMap x, int map, int... pairs) {
        same(name + ": check(" + map + ")", x.check(map), pairs.length / 2);
        for (int i = 0; i < pairs.length / 2; i++) {
            same(name + ": fault(" + i + ", 0)", faultOrNone(x, i, 0), pairs[2 * i]);
            same(name + ": fault(" + i + ", 1)", faultOrNone(x, i, 1), pairs[2 * i + 1]);
        }
        throwsIndex(name + ": fault behind the last", x, pairs.length / 2, 0);
    }

    private static int faultOrNone(StructureMap x, int i, int what) {
        try {
            return x.fault(i, what);
        } catch (IndexOutOfBoundsException e) {
            return -99;
        }
    }

    static void order(String name, StructureMap x, int map, int... numbers) {
        for (int i = 0; i < numbers.length; i++) {
            same(name + ": order(" + map + ", " + i + ")", x.order(map, i), numbers[i]);
        }
        same(name + ": order behind the last", x.order(map, numbers.length), StructureMap.NONE);
    }

    static void printed(String name, StructureMap x, int map, String text) {
        same(name + ": print(" + map + ")", x.print(map), text.length());
        stillPrinted(name, x, text);
    }

    static void stillPrinted(String name, StructureMap x, String text) {
        for (int i = 0; i < text.length(); i++) {
            same(name + ": at(" + i + ")", x.at(i), text.charAt(i));
        }
        same(name + ": at behind the last", x.at(text.length()), StructureMap.NONE);
    }

    static void step(String name, StructureMap x, int i, int... five) {
        for (int what = 0; what < 5; what++) {
            same(name + ": step(" + i + ", " + what + ")", x.step(i, what), five[what]);
        }
    }

    static void end() {
        System.out.println(asked + " answers, " + wrong + " wrong");
        System.exit(wrong == 0 && asked > 0 ? 0 : 1);
    }
}
