import java.util.Arrays;

/**
 * Structure maps over files: divisions in trees with orders and labels, linked to spans of files,
 * repeated by reference; read in order, checked, printed, compared.
 */
public final class StructureMap {
    /** No such number. */
    public static final int NONE = -1;
    /** A number that can't be. */
    public static final int RANGE = -2;
    /** Not in this state. */
    public static final int STATE = -3;
    /** No room. */
    public static final int FULL = -4;

    private static final int MAX_FILES = 30;
    private static final int MAX_SIZE = 100000;
    private static final int MAX_MAPS = 5;
    private static final int MAX_DIVISIONS = 120;
    private static final int MAX_ORDER = 999;
    private static final int MAX_LABEL = 9999;
    private static final int MAX_LINKS_OF_ONE = 5;
    private static final int MAX_LINKS = MAX_DIVISIONS * MAX_LINKS_OF_ONE;
    private static final int MAX_READ = 1000;
    private static final int MAX_STEPS = MAX_READ * MAX_LINKS_OF_ONE;
    /** A division has at most two faults of its three (1 and 3 exclude each other), a file two. */
    private static final int MAX_FAULTS = 2 * (MAX_DIVISIONS + MAX_FILES);
    /** All divisions in one chain: 0 + 1 + .. + 119 blanks, and six signs more a line at most. */
    private static final int MAX_SIGNS = MAX_DIVISIONS * (MAX_DIVISIONS - 1) / 2 + 6 * MAX_DIVISIONS;

    private static final int TOP = -1;
    private static final int PHYSICAL = 0;
    private static final int LOGICAL = 1;

    private static final int FAULT_EMPTY = 1;
    private static final int FAULT_SAME_ORDER = 2;
    private static final int FAULT_BEYOND = 3;
    private static final int FAULT_TWICE = 4;
    private static final int FAULT_IN_NONE = 5;

    private final SizedFile[] files;
    private int fileCount;
    private final Tree[] trees;
    private int treeCount;
    private final Division[] divisions;
    private int divisionCount;

    private final Search search;
    private final Reading reading;
    private final Steps steps;
    private final Faults faults;
    private final Signs signs;

    public StructureMap() {
        files = new SizedFile[MAX_FILES];
        fileCount = 0;
        trees = new Tree[MAX_MAPS];
        treeCount = 0;
        divisions = new Division[MAX_DIVISIONS];
        divisionCount = 0;
        search = new Search();
        reading = new Reading();
        steps = new Steps();
        faults = new Faults();
        signs = new Signs();
    }

    public int file(int size) {
        if (!isSize(size)) {
            return RANGE;
        }
        if (fileCount >= MAX_FILES) {
            return FULL;
        }
        int number = fileCount;
        files[number] = new SizedFile(number, size);
        fileCount++;
        return number;
    }

    public int size(int file, int size) {
        SizedFile found = findFile(file);
        if (found == null) {
            return NONE;
        }
        if (!isSize(size)) {
            return RANGE;
        }
        int before = found.size;
        found.size = size;
        return before;
    }

    public int map(int kind) {
        if (kind != PHYSICAL && kind != LOGICAL) {
            return RANGE;
        }
        if (treeCount >= MAX_MAPS) {
            return FULL;
        }
        int number = treeCount;
        trees[number] = new Tree(number, kind);
        treeCount++;
        return number;
    }

    public int division(int map, int under, int order, int label) {
        Tree tree = findTree(map);
        if (tree == null) {
            return NONE;
        }
        Division parent = findParent(tree, under);
        if (parent == null) {
            return NONE;
        }
        if (order < 0 || order > MAX_ORDER || label < 0 || label > MAX_LABEL) {
            return RANGE;
        }
        if (parent.map != map || parent.repeated != null) {
            return STATE;
        }
        if (divisionCount >= MAX_DIVISIONS) {
            return FULL;
        }
        int number = divisionCount;
        Division added = new Division(number, map, order, label);
        divisions[number] = added;
        divisionCount++;
        parent.take(added);
        return number;
    }

    public int link(int division, int file, int from, int to) {
        Division owner = findDivision(division);
        SizedFile target = findFile(file);
        if (owner == null || target == null) {
            return NONE;
        }
        if (from < 0 || to <= from || to > MAX_SIZE) {
            return RANGE;
        }
        if (owner.repeated != null) {
            return STATE;
        }
        if (owner.linkCount >= MAX_LINKS_OF_ONE) {
            return FULL;
        }
        Link added = new Link(owner, target, from, to);
        owner.links[owner.linkCount] = added;
        owner.linkCount++;
        target.take(added);
        return owner.linkCount;
    }

    public int repeat(int division, int other) {
        Division repeating = findDivision(division);
        Division repeated = findDivision(other);
        if (repeating == null || repeated == null) {
            return NONE;
        }
        if (!repeating.isEmpty() || repeating.map != repeated.map) {
            return STATE;
        }
        if (search.comesTo(repeated, repeating)) {
            return STATE;
        }
        repeating.repeated = repeated;
        return 1;
    }

    public int move(int division, int under) {
        Division moved = findDivision(division);
        if (moved == null) {
            return NONE;
        }
        Tree tree = findTree(moved.map);
        if (tree == null) {
            return NONE;
        }
        Division parent = findParent(tree, under);
        if (parent == null) {
            return NONE;
        }
        if (parent.map != moved.map || parent.repeated != null) {
            return STATE;
        }
        if (search.comesTo(moved, parent)) {
            return STATE;
        }
        if (moved.under != null) {
            moved.under.drop(moved);
        }
        parent.take(moved);
        return 1;
    }

    public int order(int map, int i) {
        Tree tree = findTree(map);
        if (tree == null || i < 0 || i >= divisionCount) {
            return NONE;
        }
        Division found = tree.root.next(tree.root);
        for (int n = 0; n < i && found != null; n++) {
            found = found.next(tree.root);
        }
        return found == null ? NONE : found.number;
    }

    public int read(int map) {
        Tree tree = findTree(map);
        if (tree == null) {
            return NONE;
        }
        reading.goThrough(tree.root);
        steps.keep(reading);
        return steps.count;
    }

    public int step(int i, int what) {
        return steps.tell(i, what);
    }

    public int check(int map) {
        Tree tree = findTree(map);
        if (tree == null) {
            return NONE;
        }
        faults.count = 0;
        for (int n = 0; n < divisionCount; n++) {
            Division checked = divisions[n];
            if (checked != null && checked.map == map) {
                addFaultsOfDivision(checked);
            }
        }
        if (tree.kind == PHYSICAL) {
            reading.goThrough(tree.root);
            for (int n = 0; n < fileCount; n++) {
                addFaultsOfFile(files[n]);
            }
        }
        return faults.count;
    }

    public int fault(int i, int what) throws IndexOutOfBoundsException {
        if (i < 0 || i >= faults.count || what < 0 || what > 1) {
            throw new IndexOutOfBoundsException();
        }
        return what == 0 ? faults.which[i] : faults.where[i];
    }

    public int print(int map) {
        Tree tree = findTree(map);
        if (tree == null) {
            return NONE;
        }
        signs.count = 0;
        Division printed = tree.root.next(tree.root);
        for (int n = 0; n < MAX_DIVISIONS && printed != null; n++) {
            signs.putLine(printed);
            printed = printed.next(tree.root);
        }
        return signs.count;
    }

    public int at(int i) {
        if (i < 0 || i >= signs.count) {
            return NONE;
        }
        return signs.row[i];
    }

    public int differ(int map, int other) {
        Tree one = findTree(map);
        Tree two = findTree(other);
        if (one == null || two == null) {
            return NONE;
        }
        Division left = one.root.next(one.root);
        Division right = two.root.next(two.root);
        int places = 0;
        for (int n = 0; n < MAX_DIVISIONS && (left != null || right != null); n++) {
            if (areUnlike(left, right)) {
                places++;
            }
            left = left == null ? null : left.next(one.root);
            right = right == null ? null : right.next(two.root);
        }
        return places;
    }

    public int about(int division, int what) {
        Division found = findDivision(division);
        if (found == null) {
            return NONE;
        }
        switch (what) {
            case 0:
                return found.map;
            case 1:
                return found.under == null ? TOP : found.under.number;
            case 2:
                return found.order;
            case 3:
                return found.label;
            case 4:
                return found.linkCount;
            case 5:
                return found.repeated == null ? NONE : found.repeated.number;
            case 6:
                return found.countUnder();
            default:
                return NONE;
        }
    }

    private static boolean isSize(int size) {
        return size >= 0 && size <= MAX_SIZE;
    }

    private SizedFile findFile(int number) {
        return number < 0 || number >= fileCount ? null : files[number];
    }

    private Tree findTree(int number) {
        return number < 0 || number >= treeCount ? null : trees[number];
    }

    private Division findDivision(int number) {
        return number < 0 || number >= divisionCount ? null : divisions[number];
    }

    private Division findParent(Tree tree, int number) {
        return number == TOP ? tree.root : findDivision(number);
    }

    private static boolean areUnlike(Division left, Division right) {
        if (left == null || right == null) {
            return true;
        }
        return left.label != right.label || left.depth() != right.depth();
    }

    private void addFaultsOfDivision(Division checked) {
        if (checked.isEmpty()) {
            faults.add(FAULT_EMPTY, checked.number);
        }
        if (checked.hasOrderOfLower()) {
            faults.add(FAULT_SAME_ORDER, checked.number);
        }
        if (checked.linksBeyond()) {
            faults.add(FAULT_BEYOND, checked.number);
        }
    }

    private void addFaultsOfFile(SizedFile checked) {
        if (checked == null) {
            return;
        }
        if (checked.hasPlaceTwice(reading.times)) {
            faults.add(FAULT_TWICE, checked.number);
        }
        if (checked.hasPlaceInNone(reading.times)) {
            faults.add(FAULT_IN_NONE, checked.number);
        }
    }

    /** A file, with the links to it of all maps in a chain by their beginnings. */
    private static final class SizedFile {
        final int number;
        int size;
        Link firstLink;

        SizedFile(int number, int size) {
            this.number = number;
            this.size = size;
            this.firstLink = null;
        }

        void take(Link added) {
            Link before = null;
            Link behind = firstLink;
            for (int n = 0; n < MAX_LINKS && behind != null && behind.from <= added.from; n++) {
                before = behind;
                behind = behind.nextOfFile;
            }
            added.nextOfFile = behind;
            if (before == null) {
                firstLink = added;
            } else {
                before.nextOfFile = added;
            }
        }

        /** Links that begin behind the size are passed over: their places are none of the file's. */
        boolean hasPlaceTwice(int[] times) {
            int reached = 0;
            Link link = firstLink;
            for (int n = 0; n < MAX_LINKS && link != null && link.from < size; n++) {
                int met = link.timesMet(times);
                if (met > 1 || met == 1 && link.from < reached) {
                    return true;
                }
                if (met == 1) {
                    reached = Math.max(reached, link.to);
                }
                link = link.nextOfFile;
            }
            return false;
        }

        boolean hasPlaceInNone(int[] times) {
            int reached = 0;
            Link link = firstLink;
            for (int n = 0; n < MAX_LINKS && link != null && link.from <= reached; n++) {
                if (link.timesMet(times) > 0) {
                    reached = Math.max(reached, link.to);
                }
                link = link.nextOfFile;
            }
            return reached < size;
        }
    }

    /** A map: its divisions at the top are under a root that is no division of the document's. */
    private static final class Tree {
        final int kind;
        final Division root;

        Tree(int number, int kind) {
            this.kind = kind;
            this.root = new Division(TOP, number, 0, 0);
        }
    }

    private static final class Link {
        final Division owner;
        final SizedFile file;
        final int from;
        final int to;
        Link nextOfFile;

        Link(Division owner, SizedFile file, int from, int to) {
            this.owner = owner;
            this.file = file;
            this.from = from;
            this.to = to;
            this.nextOfFile = null;
        }

        int timesMet(int[] times) {
            int number = owner.number;
            return number < 0 || number >= times.length ? 0 : times[number];
        }
    }

    /** A division; those under it are a chain by their orders, then by their numbers. */
    private static final class Division {
        final int number;
        final int map;
        final int order;
        final int label;
        final Link[] links;
        int linkCount;
        Division under;
        Division firstUnder;
        Division nextBeside;
        Division repeated;

        Division(int number, int map, int order, int label) {
            this.number = number;
            this.map = map;
            this.order = order;
            this.label = label;
            this.links = new Link[MAX_LINKS_OF_ONE];
            this.linkCount = 0;
            this.under = null;
            this.firstUnder = null;
            this.nextBeside = null;
            this.repeated = null;
        }

        boolean isEmpty() {
            return linkCount == 0 && firstUnder == null && repeated == null;
        }

        boolean comesBefore(Division other) {
            return order != other.order ? order < other.order : number < other.number;
        }

        void take(Division added) {
            Division before = null;
            Division behind = firstUnder;
            for (int n = 0; n < MAX_DIVISIONS && behind != null && behind.comesBefore(added); n++) {
                before = behind;
                behind = behind.nextBeside;
            }
            added.under = this;
            added.nextBeside = behind;
            if (before == null) {
                firstUnder = added;
            } else {
                before.nextBeside = added;
            }
        }

        void drop(Division gone) {
            Division before = null;
            Division here = firstUnder;
            for (int n = 0; n < MAX_DIVISIONS && here != null && here != gone; n++) {
                before = here;
                here = here.nextBeside;
            }
            if (before == null) {
                firstUnder = gone.nextBeside;
            } else {
                before.nextBeside = gone.nextBeside;
            }
            gone.under = null;
            gone.nextBeside = null;
        }

        /** The one behind this in THE ORDER that is still under the given one, or null. */
        Division next(Division top) {
            if (firstUnder != null) {
                return firstUnder;
            }
            Division here = this;
            for (int n = 0; n <= MAX_DIVISIONS && here != null && here != top; n++) {
                if (here.nextBeside != null) {
                    return here.nextBeside;
                }
                here = here.under;
            }
            return null;
        }

        /** How many it is under: the root of the map is not one. */
        int depth() {
            int depth = 0;
            Division here = under;
            for (int n = 0; n < MAX_DIVISIONS && here != null && here.number != TOP; n++) {
                depth++;
                here = here.under;
            }
            return depth;
        }

        int countUnder() {
            int count = 0;
            Division here = next(this);
            for (int n = 0; n < MAX_DIVISIONS && here != null; n++) {
                count++;
                here = here.next(this);
            }
            return count;
        }

        boolean hasOrderOfLower() {
            Division beside = under == null ? null : under.firstUnder;
            for (int n = 0; n < MAX_DIVISIONS && beside != null; n++) {
                if (beside.order == order && beside.number < number) {
                    return true;
                }
                beside = beside.nextBeside;
            }
            return false;
        }

        boolean linksBeyond() {
            for (int n = 0; n < linkCount && n < links.length; n++) {
                Link link = links[n];
                if (link != null && link.to > link.file.size) {
                    return true;
                }
            }
            return false;
        }
    }

    /** Goes from a division to what is under it and to what it repeats, each one once. */
    private static final class Search {
        final Division[] found;
        final boolean[] isFound;
        int count;

        Search() {
            found = new Division[MAX_DIVISIONS];
            isFound = new boolean[MAX_DIVISIONS];
            count = 0;
        }

        boolean comesTo(Division start, Division goal) {
            forget();
            add(start);
            for (int n = 0; n < MAX_DIVISIONS && n < count; n++) {
                Division here = found[n];
                if (here == goal) {
                    return true;
                }
                addBehind(here);
            }
            return false;
        }

        void forget() {
            for (int n = 0; n < isFound.length; n++) {
                isFound[n] = false;
            }
            count = 0;
        }

        void addBehind(Division here) {
            if (here == null) {
                return;
            }
            add(here.repeated);
            Division lower = here.firstUnder;
            for (int n = 0; n < MAX_DIVISIONS && lower != null; n++) {
                add(lower);
                lower = lower.nextBeside;
            }
        }

        void add(Division met) {
            if (met == null || met.number < 0 || met.number >= isFound.length) {
                return;
            }
            if (isFound[met.number] || count >= found.length) {
                return;
            }
            isFound[met.number] = true;
            found[count] = met;
            count++;
        }
    }

    /** READING: the divisions that it comes to, in turn, and how many times to each one. */
    private static final class Reading {
        final Division[] met;
        final Division[] metAt;
        int count;
        final int[] times;
        /** The divisions whose repeated ones are being read, the outermost one first. */
        final Division[] open;
        int openCount;

        Reading() {
            met = new Division[MAX_READ];
            metAt = new Division[MAX_READ];
            count = 0;
            times = new int[MAX_DIVISIONS];
            open = new Division[MAX_DIVISIONS];
            openCount = 0;
        }

        void goThrough(Division root) {
            Arrays.fill(times, 0);
            count = 0;
            openCount = 0;
            Division here = root.next(root);
            for (int n = 0; n < MAX_READ && here != null; n++) {
                meet(here);
                here = here.repeated != null ? enter(here) : behind(here, root);
            }
        }

        void meet(Division here) {
            if (count >= met.length || here.number < 0 || here.number >= times.length) {
                return;
            }
            met[count] = here;
            metAt[count] = openCount > 0 ? open[0] : here;
            count++;
            times[here.number]++;
        }

        Division enter(Division repeating) {
            if (openCount >= open.length) {
                return null;
            }
            open[openCount] = repeating;
            openCount++;
            return repeating.repeated;
        }

        Division behind(Division here, Division root) {
            Division next = here.next(innermost(root));
            for (int n = 0; n < MAX_DIVISIONS && next == null && openCount > 0; n++) {
                openCount--;
                Division left = open[openCount];
                next = left == null ? null : left.next(innermost(root));
            }
            return next;
        }

        /** The one whose tree is being read now: a repeated one, or the root of the map. */
        Division innermost(Division root) {
            if (openCount <= 0 || openCount > open.length) {
                return root;
            }
            Division repeating = open[openCount - 1];
            return repeating == null ? root : repeating.repeated;
        }
    }

    /** The STEPS of the latest reading; links never change, so that they need no copies. */
    private static final class Steps {
        final Link[] links;
        final Division[] cameAt;
        int count;

        Steps() {
            links = new Link[MAX_STEPS];
            cameAt = new Division[MAX_STEPS];
            count = 0;
        }

        void keep(Reading reading) {
            count = 0;
            for (int n = 0; n < reading.count && n < MAX_READ; n++) {
                addLinks(reading.met[n], reading.metAt[n]);
            }
        }

        void addLinks(Division owner, Division place) {
            if (owner == null) {
                return;
            }
            for (int n = 0; n < owner.linkCount && n < owner.links.length; n++) {
                if (count < links.length) {
                    links[count] = owner.links[n];
                    cameAt[count] = place;
                    count++;
                }
            }
        }

        int tell(int i, int what) {
            if (i < 0 || i >= count) {
                return NONE;
            }
            Link link = links[i];
            Division place = cameAt[i];
            if (link == null || place == null) {
                return NONE;
            }
            switch (what) {
                case 0:
                    return link.owner.number;
                case 1:
                    return link.file.number;
                case 2:
                    return link.from;
                case 3:
                    return link.to;
                case 4:
                    return place.number;
                default:
                    return NONE;
            }
        }
    }

    private static final class Faults {
        final int[] which;
        final int[] where;
        int count;

        Faults() {
            which = new int[MAX_FAULTS];
            where = new int[MAX_FAULTS];
            count = 0;
        }

        void add(int kind, int number) {
            if (count < which.length && count < where.length) {
                which[count] = kind;
                where[count] = number;
                count++;
            }
        }
    }

    /** What was printed latest. */
    private static final class Signs {
        final char[] row;
        int count;

        Signs() {
            row = new char[MAX_SIGNS];
            count = 0;
        }

        void putLine(Division printed) {
            int depth = printed.depth();
            for (int n = 0; n < depth; n++) {
                put(' ');
            }
            putNumber(printed.label);
            if (printed.repeated != null) {
                put('=');
            }
            put('\n');
        }

        void putNumber(int number) {
            for (int unit = 1000; unit > 0; unit /= 10) {
                if (number >= unit || unit == 1) {
                    put((char) ('0' + number / unit % 10));
                }
            }
        }

        void put(char sign) {
            if (count < row.length) {
                row[count] = sign;
                count++;
            }
        }
    }
}
