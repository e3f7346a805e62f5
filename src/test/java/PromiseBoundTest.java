/**
 * The bounds that the sixteen promises name, each sentence by a test of its own: the call at the
 * bound, the call just beyond it, and, behind a call that is refused, all that was there before.
 */
public final class PromiseBoundTest extends Checks {
    private static final int LOWEST = Integer.MIN_VALUE, HIGHEST = Integer.MAX_VALUE;

    public static void main(String[] args) throws ReflectiveOperationException {
        newObject();
        insert();
        remove();
        window();
        next();
        countIn();
        nearest();
        distance();
        pairs();
        visited();
        pack();
        clear();
        count();
        node();
        held();
        audit();
        finish();
    }

    private interface OfRectangle {
        int ask(int x1, int y1, int x2, int y2);
    }

    private static String text(String name, int[] r) {
        return name + "(" + r[0] + ", " + r[1] + ", " + r[2] + ", " + r[3] + ")";
    }

    /** Rectangles at the bounds: of one place, of one row, of all places. */
    private static final int[][] AT_BOUNDS = {
        {0, 0, 0, 0}, {LAST, LAST, LAST, LAST}, {0, LAST, 0, LAST}, {LAST, 0, LAST, 0}, {7, 0, 7, LAST},
        {0, 7, LAST, 7}, {0, 0, LAST, LAST},
    };

    private static final int[][] X_ABOVE = {{6, 0, 5, 9}, {LAST, 0, 0, 9}, {1, 0, 0, 0}, {LAST, LAST, LAST - 1, LAST}};

    private static final int[][] Y_ABOVE = {{0, 6, 9, 5}, {0, LAST, 9, 0}, {0, 1, 0, 0}, {LAST, LAST, LAST, LAST - 1}};

    private static final int[][] OUT_OF_BOUNDS = {
        {-1, 0, 9, 9}, {0, -1, 9, 9}, {-2, 0, -1, 9}, {0, -2, 9, -1}, {-1, -1, -1, -1},
        {0, 0, LAST + 1, 9}, {0, 0, 9, LAST + 1}, {LAST + 1, 0, LAST + 1, 9}, {0, LAST + 1, 9, LAST + 1},
        {LOWEST, 0, 9, 9}, {0, LOWEST, 9, 9}, {0, 0, HIGHEST, 9}, {0, 0, 9, HIGHEST},
        {LOWEST, LOWEST, HIGHEST, HIGHEST}, {HIGHEST, HIGHEST, LOWEST, LOWEST},
        {65536, 65536, 65537, 65537}, {0, 0, 65536 + 9, 65536 + 9},
    };

    private static void refuses(AreaTree tree, String name, OfRectangle call, int[][] none) {
        for (int[] r : none) {
            unchanged(tree, text(name, r), () -> call.ask(r[0], r[1], r[2], r[3]), BAD);
        }
    }

    private static void refusesAllNone(AreaTree tree, String name, OfRectangle call) {
        refuses(tree, name, call, X_ABOVE);
        refuses(tree, name, call, Y_ABOVE);
        refuses(tree, name, call, OUT_OF_BOUNDS);
    }

    /** A window stands behind its first entry, and something was told: all that a wrong call could spoil. */
    private static AreaTree inUse() {
        AreaTree tree = twoLeaves();
        tree.nearest(9, 9, 0);
        tree.window(0, 0, 9, 9);
        tree.next();
        return tree;
    }

    /** What the window of inUse() has still to tell. */
    private static void goesOnInUse(AreaTree tree) {
        int[] left = {5, 3, 2, 4, NONE, NONE};
        for (int due : left) {
            due("next()", tree.next(), due);
        }
        due("visited(0)", tree.visited(0), 3);
    }

    private static void newObject() {
        promise(1, "An empty LEAF");
        AreaTree tree = new AreaTree(6, 3);
        counts(tree, 0, 1, 1, 0, 0, 0, 6, 3);
        due("node(0, 0)", tree.node(0, 0), 0);
        due("node(0, 1)", tree.node(0, 1), 0);
        due("node(0, 6)", tree.node(0, 6), NONE);
        due("node(1, 0)", tree.node(1, 0), BAD);
        due("held(0, 0, 0)", tree.held(0, 0, 0), BAD);
        due("next()", tree.next(), BAD);
        due("countIn(..)", tree.countIn(0, 0, LAST, LAST), 0);

        promise(1, "M most (brought to 4 .. 10)");
        int[][] mosts = {{LOWEST, 4}, {-4, 4}, {0, 4}, {3, 4}, {4, 4}, {5, 5}, {9, 9}, {10, 10}, {11, 10}, {HIGHEST, 10}};
        for (int[] most : mosts) {
            due("M of " + most[0], new AreaTree(most[0], 2).count(6), most[1]);
        }

        promise(1, "N least (brought to 2 .. M / 2, cut off)");
        int[] halves = {2, 2, 3, 3, 4, 4, 5};
        for (int most = 4; most <= 10; most++) {
            int half = halves[most - 4];
            int[][] leasts = {{LOWEST, 2}, {-1, 2}, {0, 2}, {1, 2}, {2, 2}, {half, half}, {half + 1, half}, {HIGHEST, half}};
            for (int[] least : leasts) {
                due("N of " + most + ", " + least[0], new AreaTree(most, least[0]).count(7), least[1]);
            }
        }
        // The half is that of M as it was brought there, not of what was asked for.
        due("N of 3, 2", new AreaTree(3, 2).count(7), 2);
        due("N of 100, 50", new AreaTree(100, 50).count(7), 5);
        due("N of MIN, MAX", new AreaTree(LOWEST, HIGHEST).count(7), 2);
    }

    private static void insert() {
        promise(2, "An ENTRY is PUT: how many there are");
        AreaTree tree = new AreaTree(4, 2);
        for (int i = 0; i < AT_BOUNDS.length; i++) {
            int[] r = AT_BOUNDS[i];
            due(text("insert", r), tree.insert(i, r[0], r[1], r[2], r[3]), i + 1);
            due(text("countIn", r), tree.countIn(r[0], r[1], r[2], r[3]) > 0, true);
        }

        AreaTree used = inUse();
        promise(2, "BAD: another id");
        for (int id : new int[] {-1, 1000, -1000, LOWEST, HIGHEST}) {
            unchanged(used, "id " + id, () -> used.insert(id, 3, 3, 4, 4), BAD);
        }
        promise(2, "no RECTANGLE (x1 above x2");
        refuses(used, "insert", (a, b, c, d) -> used.insert(7, a, b, c, d), X_ABOVE);
        due("x1 as x2", tree.insert(500, 6, 0, 6, 9), AT_BOUNDS.length + 1);
        promise(2, "y1 above y2");
        refuses(used, "insert", (a, b, c, d) -> used.insert(7, a, b, c, d), Y_ABOVE);
        due("y1 as y2", tree.insert(500, 0, 6, 9, 6), AT_BOUNDS.length + 2);
        promise(2, "out of bounds)");
        refuses(used, "insert", (a, b, c, d) -> used.insert(7, a, b, c, d), OUT_OF_BOUNDS);
        promise(2, "NONE: there is one alike");
        unchanged(used, "one alike", () -> used.insert(4, 8, 8, 8, 8), NONE);
        goesOnInUse(used);
        used.remove(4, 8, 8, 8, 8);
        due("none is alike any more", used.insert(4, 8, 8, 8, 8), 5);
        insertFull();
    }

    private static void insertFull() {
        promise(2, "- 3: there are 400");
        AreaTree tree = full();
        tree.window(0, 0, 9, 9);
        tree.next();
        unchanged(tree, "entry 401", () -> tree.insert(400, 1, 1, 2, 2), TOO_MANY);
        unchanged(tree, "entry 401 again", () -> tree.insert(0, 1, 1, 2, 2), TOO_MANY);
        due("next() behind it", tree.next(), 1);
        due("one less", tree.remove(399, 1197, 1995, 1201, 1999), 399);
        due("entry 400", tree.insert(400, 1, 1, 2, 2), 400);
        due("entry 401", tree.insert(401, 1, 1, 2, 2), TOO_MANY);

        promise(2, "Of these the first: BAD .. NONE .. - 3");
        unchanged(tree, "another id, though there are 400", () -> tree.insert(1000, 1, 1, 2, 2), BAD);
        unchanged(tree, "no rectangle, though there are 400", () -> tree.insert(0, 2, 1, 1, 2), BAD);
        unchanged(tree, "another id and no rectangle", () -> tree.insert(-1, 2, 1, 1, 2), BAD);
        unchanged(tree, "one alike, though there are 400", () -> tree.insert(400, 1, 1, 2, 2), NONE);
        due("all 400 go", tree.clear(), 400);
        due("then the first", tree.insert(400, 1, 1, 2, 2), 1);
    }

    private static void remove() {
        promise(3, "It is TAKEN out: how many there are");
        AreaTree tree = full();
        for (int i = 0; i < 400; i++) {
            due("remove " + i, tree.remove(i, i * 3, i * 5, i * 3 + 4, i * 5 + 4), 399 - i);
        }
        counts(tree, 0, 1, 1);
        AreaTree bounds = new AreaTree(4, 2);
        for (int i = 0; i < AT_BOUNDS.length; i++) {
            int[] r = AT_BOUNDS[i];
            bounds.insert(i * 166, r[0], r[1], r[2], r[3]);
        }
        for (int i = 0; i < AT_BOUNDS.length; i++) {
            int[] r = AT_BOUNDS[i];
            due(text("remove", r), bounds.remove(i * 166, r[0], r[1], r[2], r[3]), AT_BOUNDS.length - 1 - i);
        }

        promise(3, "BAD");
        AreaTree used = inUse();
        for (int id : new int[] {-1, 1000, LOWEST, HIGHEST}) {
            unchanged(used, "id " + id, () -> used.remove(id, 8, 8, 8, 8), BAD);
        }
        refusesAllNone(used, "remove", (a, b, c, d) -> used.remove(4, a, b, c, d));

        promise(3, "NONE: there is none such");
        int[] four = {4, 8, 8, 8, 8};
        int[][] others = {
            {3, 8, 8, 8, 8}, {5, 8, 8, 8, 8}, {4, 7, 8, 8, 8}, {4, 8, 7, 8, 8}, {4, 8, 8, 9, 8}, {4, 8, 8, 8, 9},
        };
        for (int[] e : others) {
            unchanged(used, "alike but for one", () -> used.remove(e[0], e[1], e[2], e[3], e[4]), NONE);
        }
        goesOnInUse(used);
        due("it is there", used.remove(four[0], four[1], four[2], four[3], four[4]), 4);
        unchanged(used, "it was there", () -> used.remove(four[0], four[1], four[2], four[3], four[4]), NONE);
        used.clear();
        unchanged(used, "behind clear()", () -> used.remove(1, 0, 0, 0, 0), NONE);
        AreaTree empty = new AreaTree(4, 2);
        unchanged(empty, "in an empty tree", () -> empty.remove(0, 0, 0, 0, 0), NONE);
        unchanged(empty, "no rectangle in an empty tree", () -> empty.remove(0, 1, 0, 0, 0), BAD);
    }

    private static void isShut(AreaTree tree, String behind) {
        due("next() behind " + behind, tree.next(), BAD);
        due("visited(0) behind " + behind, tree.visited(0), BAD);
    }

    private static void window() {
        promise(4, "A WINDOW is opened: 0");
        AreaTree tree = new AreaTree(4, 2);
        for (int[] r : AT_BOUNDS) {
            due(text("window", r), tree.window(r[0], r[1], r[2], r[3]), 0);
            due("visited(0)", tree.visited(0), 0);
        }
        point(tree, 1, LAST, LAST);
        point(tree, 2, 0, 0);
        for (int id = 1; id <= 2; id++) {
            int at = id == 1 ? LAST : 0;
            tree.window(at, at, at, at);
            due("next() at " + at, tree.next(), id);
            due("next() at " + at, tree.next(), NONE);
        }

        promise(4, "BAD: no RECTANGLE");
        AreaTree used = inUse();
        refusesAllNone(used, "window", used::window);
        goesOnInUse(used);
        AreaTree shut = twoLeaves();
        due("window(6, 0, 5, 9)", shut.window(6, 0, 5, 9), BAD);
        isShut(shut, "a window that is none");

        promise(4, "It is shut by insert() and remove() that change the tree");
        AreaTree first = inUse();
        point(first, 6, 700, 700);
        isShut(first, "insert()");
        first.window(0, 0, 9, 9);
        first.remove(6, 700, 700, 700, 700);
        isShut(first, "remove()");
        AreaTree empty = new AreaTree(4, 2);
        empty.window(0, 0, 9, 9);
        unchanged(empty, "remove() from an empty tree", () -> empty.remove(1, 0, 0, 0, 0), NONE);
        due("next() behind it", empty.next(), NONE);
        point(empty, 1, 0, 0);
        isShut(empty, "the first insert()");
        empty.window(0, 0, 9, 9);
        empty.remove(1, 0, 0, 0, 0);
        isShut(empty, "the last remove()");
        shutByTheRest();
    }

    private static void shutByTheRest() {
        promise(4, "pack()");
        AreaTree packed = inUse();
        packed.pack();
        isShut(packed, "pack()");
        packed.window(0, 0, 9, 9);
        packed.pack();
        isShut(packed, "pack() that finds all packed");
        AreaTree empty = new AreaTree(4, 2);
        empty.window(0, 0, 9, 9);
        empty.pack();
        isShut(empty, "pack() of nothing");

        promise(4, "clear()");
        AreaTree cleared = inUse();
        cleared.clear();
        isShut(cleared, "clear()");
        cleared.window(0, 0, 9, 9);
        cleared.clear();
        isShut(cleared, "clear() of nothing");

        promise(4, "and by another one that is opened");
        AreaTree again = inUse();
        due("the same window", again.window(0, 0, 9, 9), 0);
        due("visited(0)", again.visited(0), 0);
        due("next()", again.next(), 1);
        due("another window", again.window(9, 9, 9, 9), 0);
        due("visited(0)", again.visited(0), 0);
        due("next()", again.next(), 2);
        due("next()", again.next(), NONE);
        due("visited(0)", again.visited(0), 2);

        promise(4, "what does not shut it");
        AreaTree used = inUse();
        unchanged(used, "pairs()", used::pairs, 0);
        unchanged(used, "countIn(..)", () -> used.countIn(5, 5, 6, 6), 0);
        unchanged(used, "nearest(9, 9, 0)", () -> used.nearest(9, 9, 0), 2);
        unchanged(used, "distance()", used::distance, 0);
        goesOnInUse(used);
    }

    private static void next() {
        promise(5, "The next ENTRY's id in the WINDOW");
        AreaTree many = row(4, 2, 250);
        many.window(0, 0, 249, 0);
        boolean[] told = new boolean[250];
        for (int i = 0; i < 250; i++) {
            int id = many.next();
            due("next() tells an entry", id >= 0 && id < 250 && !told[id], true);
            told[Math.max(0, Math.min(249, id))] = true;
        }
        promise(5, "NONE: there is no more");
        due("next() behind the last", many.next(), NONE);
        due("next() behind the last, again", many.next(), NONE);
        due("visited(0): all nodes", many.visited(0), many.count(2));
        AreaTree empty = new AreaTree(4, 2);
        empty.window(0, 0, LAST, LAST);
        due("next() in an empty tree", empty.next(), NONE);
        due("next() in an empty tree, again", empty.next(), NONE);

        promise(5, "BAD: none is open");
        due("next() of a new object", new AreaTree(4, 2).next(), BAD);
        AreaTree tree = twoLeaves();
        due("next() before a window", tree.next(), BAD);
        tree.window(0, 0, 0, 0);
        due("next()", tree.next(), 1);
        due("next(), open still", tree.next(), NONE);
        point(tree, 6, 0, 0);
        due("next(), shut", tree.next(), BAD);
    }

    private static void countIn() {
        promise(6, "How many ENTRIES MEET a RECTANGLE");
        due("in an empty tree", new AreaTree(4, 2).countIn(0, 0, LAST, LAST), 0);
        due("in a full tree", full().countIn(0, 0, LAST, LAST), 400);
        AreaTree tree = new AreaTree(4, 2);
        tree.insert(1, 10, 10, 20, 20);
        tree.insert(2, 10, 10, 20, 20);
        tree.insert(1, 20, 20, 30, 30);
        due("at the end of all three", tree.countIn(20, 20, 20, 20), 3);
        due("just beyond two", tree.countIn(21, 20, 21, 20), 1);
        due("just beyond one", tree.countIn(20, 19, 20, 19), 2);
        due("just beyond all", tree.countIn(31, 30, LAST, LAST), 0);

        promise(6, "the WINDOW stays");
        AreaTree used = inUse();
        unchanged(used, "countIn(0, 0, 9, 9)", () -> used.countIn(0, 0, 9, 9), 5);
        for (int[] r : AT_BOUNDS) {
            used.countIn(r[0], r[1], r[2], r[3]);
        }
        goesOnInUse(used);

        promise(6, "BAD: it is none");
        AreaTree wrong = inUse();
        refusesAllNone(wrong, "countIn", wrong::countIn);
        goesOnInUse(wrong);
    }

    private static void nearest() {
        promise(7, "The k-th (from 0) of the NEAREST ENTRIES of a place (0 .. 32,767 both): its id");
        AreaTree tree = twoLeaves();
        due("nearest(0, 0, 0)", tree.nearest(0, 0, 0), 1);
        due("nearest(0, 0, 4)", tree.nearest(0, 0, 4), 2);
        due("nearest(LAST, LAST, 0)", tree.nearest(LAST, LAST, 0), 2);
        due("nearest(LAST, LAST, 4)", tree.nearest(LAST, LAST, 4), 1);
        due("nearest(0, LAST, 0)", tree.nearest(0, LAST, 0), 2);
        due("nearest(LAST, 0, 0)", tree.nearest(LAST, 0, 0), 2);
        AreaTree full = full();
        due("the last of 400", full.nearest(0, 0, 399), 399);
        due("one more than 400", full.nearest(0, 0, 400), BAD);

        // 7919 has no part in common with 400, so that each place comes once.
        AreaTree shuffled = new AreaTree(4, 2);
        for (int i = 0; i < 400; i++) {
            int x = i * 7919 % 400;
            point(shuffled, x, x, 0);
        }
        for (int k = 0; k < 400; k++) {
            due("nearest(0, 0, " + k + ") of 400", shuffled.nearest(0, 0, k), k);
            due("nearest(LAST, 0, " + k + ") of 400", shuffled.nearest(LAST, 0, k), 399 - k);
        }

        promise(7, "BAD .. no place");
        AreaTree used = inUse();
        int[] none = {-1, LAST + 1, LOWEST, HIGHEST, 65536};
        for (int at : none) {
            unchanged(used, "x " + at, () -> used.nearest(at, 0, 0), BAD);
            unchanged(used, "y " + at, () -> used.nearest(0, at, 0), BAD);
        }
        promise(7, "BAD .. k below 0");
        for (int k : new int[] {-1, -2, LOWEST}) {
            unchanged(used, "k " + k, () -> used.nearest(0, 0, k), BAD);
        }
        promise(7, "BAD .. there are not so many");
        for (int k : new int[] {5, 6, 400, HIGHEST}) {
            unchanged(used, "k " + k, () -> used.nearest(0, 0, k), BAD);
        }
        promise(7, "nothing is visited or told by it");
        due("visited(1)", used.visited(1), 2);
        due("distance()", used.distance(), 0);
        goesOnInUse(used);
        AreaTree empty = new AreaTree(4, 2);
        unchanged(empty, "in an empty tree", () -> empty.nearest(0, 0, 0), BAD);
        due("visited(1)", empty.visited(1), 0);
        due("distance()", empty.distance(), BAD);
        AreaTree less = line(3, 5);
        due("the second of two", less.nearest(0, 0, 1), 2);
        less.remove(1, 3, 0, 3, 0);
        unchanged(less, "the second of one", () -> less.nearest(0, 0, 1), BAD);
        due("distance(), as it was", less.distance(), 25);
    }

    private static void distance() {
        promise(8, "How far the ENTRY is that nearest() told last");
        AreaTree tree = line(3, 10);
        tree.nearest(0, 4, 1);
        due("the second", tree.distance(), 116);
        tree.nearest(0, 4, 0);
        due("the first", tree.distance(), 25);
        tree.nearest(3, 0, 0);
        due("0 within it", tree.distance(), 0);
        tree.nearest(LAST, LAST, 1);
        due("the farthest", tree.distance(), 2147155985);

        promise(8, "the square, as it was then, whatever changed since");
        AreaTree then = line(3);
        then.nearest(0, 4, 0);
        point(then, 2, 0, 4);
        due("behind insert() of a nearer one", then.distance(), 25);
        then.remove(1, 3, 0, 3, 0);
        due("behind remove() of the one that was told", then.distance(), 25);
        then.pack();
        due("behind pack()", then.distance(), 25);
        then.nearest(0, 0, 1);
        then.nearest(0, 0, -1);
        due("behind nearest() that told none", then.distance(), 25);
        then.clear();
        due("behind clear()", then.distance(), 25);

        promise(8, "BAD: it never told one");
        AreaTree never = new AreaTree(4, 2);
        due("of a new object", never.distance(), BAD);
        never.nearest(0, 0, 0);
        due("behind nearest() in an empty tree", never.distance(), BAD);
        point(never, 1, 0, 0);
        never.nearest(-1, 0, 0);
        never.nearest(0, 0, 1);
        never.window(0, 0, 0, 0);
        never.next();
        never.countIn(0, 0, 0, 0);
        due("behind calls that are no nearest() or told none", never.distance(), BAD);
        never.nearest(0, 0, 0);
        due("behind the first that told one", never.distance(), 0);
    }

    private static void pairs() {
        promise(9, "How many pairs of different ENTRIES MEET");
        AreaTree tree = new AreaTree(4, 2);
        due("of none", tree.pairs(), 0);
        tree.insert(1, 0, 0, 5, 5);
        due("of one", tree.pairs(), 0);
        tree.insert(1, 5, 5, 9, 9);
        due("of two with one id, by a corner", tree.pairs(), 1);
        tree.insert(2, 6, 0, 9, 4);
        due("just beyond both", tree.pairs(), 1);
        AreaTree all = new AreaTree(4, 2);
        for (int i = 0; i < 400; i++) {
            all.insert(i, 0, 0, i, i);
        }
        due("of 400 that all meet", all.pairs(), 79800);
        AreaTree none = row(10, 5, 400);
        due("of 400 side by side", none.pairs(), 0);
    }

    private static void visited() {
        promise(10, "what 0 by the WINDOW so far (BAD: none is open)");
        AreaTree tree = twoLeaves();
        due("visited(0) before a window", tree.visited(0), BAD);
        tree.window(0, 0, 9, 9);
        int[] read = {0, 2, 2, 2, 3, 3, 3};
        for (int due : read) {
            due("visited(0)", tree.visited(0), due);
            tree.next();
        }
        tree.clear();
        due("visited(0), shut", tree.visited(0), BAD);

        promise(10, "1 by the last nearest() (0 before)");
        AreaTree near = twoLeaves();
        due("visited(1) before", near.visited(1), 0);
        near.window(0, 0, 9, 9);
        near.next();
        due("visited(1) behind a window", near.visited(1), 0);
        near.nearest(0, 0, 4);
        due("visited(1), all nodes", near.visited(1), 3);
        near.nearest(0, 0, 0);
        due("visited(1), of the last alone", near.visited(1), 2);
        AreaTree leaf = line(3, 4);
        leaf.nearest(0, 0, 1);
        due("visited(1), a root that is a leaf", leaf.visited(1), 1);
        leaf.clear();
        due("visited(1) behind clear()", leaf.visited(1), 1);
        visitedPairs();

        promise(10, "BAD: another number");
        AreaTree used = inUse();
        for (int what : new int[] {-1, 3, 4, LOWEST, HIGHEST}) {
            unchanged(used, "visited(" + what + ")", () -> used.visited(what), BAD);
        }
        goesOnInUse(used);
    }

    private static void visitedPairs() {
        promise(10, "2 how many pairs of NODES of one LEVEL (in no order; the root with itself");
        due("visited(2) of an empty root", new AreaTree(4, 2).visited(2), 1);
        due("visited(2) of a leaf", line(1, 2, 3, 4).visited(2), 1);

        promise(10, "else two, or one with itself, whose RECTANGLES MEET");
        AreaTree apart = twoLeaves();
        due("visited(2), apart", apart.visited(2), 3);
        apart.insert(6, 1, 1, 7, 7);
        rectangle(apart, 1, 0, 0, 7, 7);
        due("visited(2), side by side", apart.visited(2), 3);
        AreaTree corner = twoLeaves();
        corner.insert(6, 1, 1, 8, 8);
        rectangle(corner, 1, 0, 0, 8, 8);
        due("visited(2), by a corner", corner.visited(2), 4);

        promise(10, "and that are held by a pair so counted");
        AreaTree deep = twentyPacked();
        due("visited(2), none meet", deep.visited(2), 8);
        takeFromLine(deep, 13);
        deep.insert(50, 11, 0, 12, 0);
        rectangle(deep, 5, 11, 0, 19, 0);
        due("visited(2), two leaves and what holds them", deep.visited(2), 10);
        unchanged(deep, "visited(2)", () -> deep.visited(2), 10);
    }

    /** Places on the diagonal that goes down: those of a slice lie in it the other way round. */
    private static AreaTree down(int places) {
        AreaTree tree = new AreaTree(4, 2);
        for (int i = 0; i < places; i++) {
            point(tree, i, i, 500 - i);
        }
        return tree;
    }

    private static void pack() {
        promise(11, "With no ENTRY: 1");
        AreaTree empty = new AreaTree(4, 2);
        due("pack()", empty.pack(), 1);
        counts(empty, 0, 1, 1, 0, 0, 0);
        rectangle(empty, 0, BAD, BAD, BAD, BAD);
        due("the first behind it", empty.insert(1, 5, 6, 7, 8), 1);
        rectangle(empty, 0, 5, 6, 7, 8);
        due("audit()", empty.audit(), true);
        AreaTree emptied = twoLeaves();
        emptied.clear();
        due("pack() behind clear()", emptied.pack(), 1);
        unchanged(emptied, "pack() again", emptied::pack, 1);
        due("the first behind it", emptied.insert(1, 5, 6, 7, 8), 1);
        due("pack() of it", emptied.pack(), 1);
        holds(emptied, 0, 1);
        rectangle(emptied, 0, 5, 6, 7, 8);
        due("audit()", emptied.audit(), true);

        promise(11, "with c ENTRIES there are p LEAVES (c by M, up)");
        forAllBounds((most, least) -> {
            due("c 1", row(most, least, 1).pack(), 1);
            due("c M", row(most, least, most).pack(), 1);
            due("c M + 1", row(most, least, most + 1).pack(), 3);
            due("c 2 M", row(most, least, 2 * most).pack(), 3);
            due("c 2 M + 1", row(most, least, 2 * most + 1).pack(), 4);
        });
        due("c 400, M 4", row(4, 2, 400).pack(), 100 + 25 + 7 + 2 + 1);
        due("c 400, M 10", row(10, 5, 400).pack(), 40 + 4 + 1);
        packSlices();
        packOrder();
        packFillsLast();
        packChangesNoMore();
    }

    private static void packedDown(int places, int[] first, int[] last) {
        AreaTree tree = down(places);
        int nodes = tree.pack();
        int k = 0;
        while (tree.node(k, 0) > 0) {
            k++;
        }
        holds(tree, k, first);
        holds(tree, nodes - 1, last);
        due("audit()", tree.audit(), true);
    }

    private static void packSlices() {
        promise(11, "s (the least number with s s not below p) SLICES of s M ENTRIES each (the last one may have less)");
        packedDown(4, new int[] {3, 2, 1, 0}, new int[] {3, 2, 1, 0});
        packedDown(5, new int[] {4, 3, 2}, new int[] {1, 0});
        packedDown(16, new int[] {7, 6, 5, 4}, new int[] {11, 10, 9, 8});
        packedDown(17, new int[] {11, 10, 9, 8}, new int[] {13, 12});
        packedDown(36, new int[] {11, 10, 9, 8}, new int[] {27, 26, 25, 24});
        packedDown(37, new int[] {15, 14, 13, 12}, new int[] {33, 32});
        // 16 leaves make 4 slices of 16; 100 leaves 10 of 40.
        packedDown(64, new int[] {15, 14, 13, 12}, new int[] {51, 50, 49, 48});
        packedDown(400, new int[] {39, 38, 37, 36}, new int[] {363, 362, 361, 360});
    }

    /** The nine entries of a tree with M 4 in leaves of 4, 3 and 2: the last two slices part 8 from 1. */
    private static void nine(AreaTree tree, int what, int... due) {
        due("pack()", tree.pack(), 4);
        for (int i = 0; i < 9; i++) {
            int leaf = i < 4 ? 1 : i < 7 ? 2 : 3;
            int at = i < 4 ? i : i < 7 ? i - 4 : i - 7;
            due("held(" + leaf + ", " + at + ", " + what + ")", tree.held(leaf, at, what), due[i]);
        }
    }

    /** Where both sums and x1 and y1 are alike, x2 and y2 are, too: no call can show their turn. */
    private static void packOrder() {
        promise(11, "ENTRIES by x1 and x2 together");
        // By their left ends, or then by their right ends, they would come the other way round.
        AreaTree lefter = new AreaTree(4, 2);
        AreaTree righter = new AreaTree(4, 2);
        for (int i = 0; i < 9; i++) {
            lefter.insert(i, 20 - i, i, 20 + 3 * i, i);
            righter.insert(i, 3 * i, i, 100 - i, i);
        }
        nine(lefter, 0, 0, 1, 2, 3, 4, 5, 6, 7, 8);
        nine(righter, 0, 0, 1, 2, 3, 4, 5, 6, 7, 8);

        promise(11, "then y1 and y2 together");
        AreaTree lower = new AreaTree(4, 2);
        AreaTree higher = new AreaTree(4, 2);
        for (int i = 0; i < 9; i++) {
            lower.insert(8 - i, 30 - i, 20 - i, 30 + i, 20 + 3 * i);
            higher.insert(8 - i, 30 - i, 3 * i, 30 + i, 100 - i);
        }
        nine(lower, 0, 8, 7, 6, 5, 4, 3, 2, 1, 0);
        nine(higher, 0, 8, 7, 6, 5, 4, 3, 2, 1, 0);

        promise(11, "then ids");
        AreaTree ids = new AreaTree(4, 2);
        for (int i = 8; i >= 0; i--) {
            ids.insert(i * 100, 30 - i, 30 - i, 30 + i, 30 + i);
        }
        nine(ids, 0, 0, 100, 200, 300, 400, 500, 600, 700, 800);

        promise(11, "x1");
        AreaTree lefts = new AreaTree(4, 2);
        for (int i = 0; i < 9; i++) {
            lefts.insert(7, 30 - i, 30, 30 + i, 30);
        }
        nine(lefts, 1, 22, 23, 24, 25, 26, 27, 28, 29, 30);

        promise(11, "y1");
        for (int x1 = 22; x1 <= 30; x1++) {
            AreaTree lows = new AreaTree(4, 2);
            for (int i = 0; i < 9; i++) {
                lows.insert(7, x1, 30 - i, 60 - x1, 30 + i);
            }
            nine(lows, 2, 22, 23, 24, 25, 26, 27, 28, 29, 30);
        }

        promise(11, "each SLICE then by y1 and y2 together, then as before");
        AreaTree slice = new AreaTree(4, 2);
        slice.insert(1, 9, 5, 9, 5);
        slice.insert(2, 4, 4, 5, 6);
        slice.insert(3, 0, 3, 50, 4);
        slice.insert(0, 5, 2, 5, 8);
        slice.pack();
        holds(slice, 0, 3, 2, 0, 1);
    }

    private static void packFillsLast() {
        promise(11, "if the very last LEAF has less than N, the one before gives it its last ones, in order, "
            + "before all of its own, till it has N");
        forAllBounds((most, least) -> {
            for (int last = 1; last <= most; last++) {
                AreaTree tree = row(most, least, most + last);
                tree.pack();
                int given = Math.max(0, least - last);
                due("leaf 1 with " + last, tree.node(1, 1), most - given);
                due("leaf 2 with " + last, tree.node(2, 1), last + given);
                for (int i = 0; i < last + given; i++) {
                    due("held(2, " + i + ", 0) with " + last, tree.held(2, i, 0), most - given + i);
                }
                due("audit()", tree.audit(), true);
            }
        });

        promise(11, "On each LEVEL above likewise NODES of M each, as they lie, the last one filled so, till there is one");
        forAllBounds((most, least) -> {
            due("M leaves", row(most, least, most * most).pack(), most + 1);
            for (int last = 1; last <= least + 1; last++) {
                AreaTree tree = row(most, least, (most + last) * most);
                due("M + " + last + " leaves", tree.pack(), most + last + 3);
                int given = Math.max(0, least - last);
                int second = tree.held(0, 1, 0);
                due("the first above holds", tree.node(1, 1), most - given);
                due("the second above holds", tree.node(second, 1), last + given);
                due("its first leaf begins at", tree.node(second, 2), (most - given) * most);
                due("audit()", tree.audit(), true);
            }
        });
    }

    private static void packChangesNoMore() {
        promise(11, "How many NODES there are");
        AreaTree tree = twoLeaves();
        tree.remove(2, 9, 9, 9, 9);
        point(tree, 2, 9, 9);
        tree.nearest(0, 0, 0);
        int[] before = {tree.count(3), tree.count(4), tree.count(5), tree.distance(), tree.visited(1), tree.pairs()};
        due("pack()", tree.pack(), 3);
        unchanged(tree, "pack() again", tree::pack, 3);
        counts(tree, 5, 2, 3, before[0], before[1], before[2], 4, 2);
        due("distance()", tree.distance(), before[3]);
        due("visited(1)", tree.visited(1), before[4]);
        due("pairs()", tree.pairs(), before[5]);
        AreaTree deep = twentyPacked();
        unchanged(deep, "pack() of what is packed", deep::pack, 8);
        AreaTree full = packed400();
        unchanged(full, "pack() of 400 that are packed", full::pack, 135);
    }

    private static void clear() {
        promise(12, "how many there were");
        due("of a new object", new AreaTree(4, 2).clear(), 0);
        due("of one", line(5).clear(), 1);
        AreaTree full = full();
        due("of 400", full.clear(), 400);
        due("again", full.clear(), 0);
        for (int i = 0; i < 400; i++) {
            due("insert behind clear()", full.insert(i, i, i, i, i), i + 1);
        }
        due("of 400 again", full.clear(), 400);

        promise(12, "All is empty");
        AreaTree tree = inUse();
        tree.clear();
        counts(tree, 0, 1, 1);
        rectangle(tree, 0, BAD, BAD, BAD, BAD);
        due("node(0, 0)", tree.node(0, 0), 0);
        due("node(0, 1)", tree.node(0, 1), 0);
        due("node(1, 0)", tree.node(1, 0), BAD);
        due("held(0, 0, 0)", tree.held(0, 0, 0), BAD);
        due("countIn(..)", tree.countIn(0, 0, LAST, LAST), 0);
        due("pairs()", tree.pairs(), 0);
        due("nearest(0, 0, 0)", tree.nearest(0, 0, 0), BAD);
        due("remove(..)", tree.remove(1, 0, 0, 0, 0), NONE);
        due("audit()", tree.audit(), true);
        due("insert(..)", tree.insert(1, 5, 5, 6, 6), 1);
        rectangle(tree, 0, 5, 5, 6, 6);
        asNewBehindClear();
    }

    /** What was there before must not come back, whatever is put, packed or looked for. */
    private static void asNewBehindClear() {
        AreaTree used = row(4, 2, 4);
        AreaTree fresh = new AreaTree(4, 2);
        used.clear();
        for (int x = 3; x >= 0; x--) {
            point(used, x, x, 0);
            point(fresh, x, x, 0);
            due("state behind clear()", state(used).equals(state(fresh)), true);
            due("audit() behind clear()", used.audit(), true);
            due("pack() behind clear()", used.pack(), 1);
            due("countIn(..) behind clear()", used.countIn(0, 0, LAST, LAST), 4 - x);
            fresh.pack();
            due("state behind clear() and pack()", state(used).equals(state(fresh)), true);
        }
    }

    private static void count() {
        promise(13, "0 ENTRIES, 1 LEVELS, 2 NODES, 3 SPLITS");
        counts(new AreaTree(7, 3), 0, 1, 1, 0, 0, 0, 7, 3);
        counts(row(4, 2, 4), 4, 1, 1, 0, 0, 0, 4, 2);
        counts(row(4, 2, 5), 5, 2, 3, 1, 0, 0, 4, 2);
        counts(row(4, 2, 13), 13, 2, 5, 3, 0, 0, 4, 2);
        counts(row(4, 2, 14), 14, 3, 8, 5, 0, 0, 4, 2);

        promise(13, "4 NODES that went by TAKING, having less than N");
        AreaTree tree = row(4, 2, 5);
        takeFromLine(tree, 0);
        due("count(4), N are left", tree.count(4), 0);
        takeFromLine(tree, 1);
        // The leaf went for having less; the root went, too, but not for that.
        due("count(4), less are left", tree.count(4), 1);
        for (int x = 2; x < 5; x++) {
            takeFromLine(tree, x);
        }
        due("count(4), the root with fewer", tree.count(4), 1);

        promise(13, "5 what was HOMELESS");
        due("count(5), an entry", tree.count(5), 1);
        AreaTree deep = twentyPacked();
        for (int x = 16; x < 18; x++) {
            takeFromLine(deep, x);
        }
        due("count(5), N are left", deep.count(5), 0);
        takeFromLine(deep, 18);
        due("count(5), an entry and a leaf", deep.count(5), 2);

        promise(13, "3 to 5 since the beginning");
        int splits = deep.count(3);
        deep.pack();
        counts(deep, 17, 3, 8, splits, 2, 2, 4, 2);
        deep.clear();
        counts(deep, 0, 1, 1, splits, 2, 2, 4, 2);
        deep.insert(1, -1, 0, 0, 0);
        deep.remove(1, 0, 0, 0, 0);
        counts(deep, 0, 1, 1, splits, 2, 2, 4, 2);

        promise(13, "BAD: another number");
        AreaTree used = inUse();
        for (int what : new int[] {-1, 8, 9, LOWEST, HIGHEST}) {
            unchanged(used, "count(" + what + ")", () -> used.count(what), BAD);
        }
        goesOnInUse(used);
    }

    private static void node() {
        promise(14, "Of a NODE: 0 its LEVEL, 1 how many it holds, 2 to 5 x1, y1, x2, y2, 6 the NODE that holds it "
            + "(NONE: the root)");
        AreaTree tree = inUse();
        int[][] due = {{1, 2, 0, 0, 9, 9, NONE}, {0, 3, 0, 0, 1, 1, 0}, {0, 2, 8, 8, 9, 9, 0}};
        for (int k = 0; k < 3; k++) {
            for (int what = 0; what < 7; what++) {
                due("node(" + k + ", " + what + ")", tree.node(k, what), due[k][what]);
            }
        }

        promise(14, "BAD: none such");
        for (int k : new int[] {-1, 3, 4, 400, 404, LOWEST, HIGHEST}) {
            for (int what = 0; what < 7; what++) {
                int asked = what;
                unchanged(tree, "node(" + k + ", " + what + ")", () -> tree.node(k, asked), BAD);
            }
        }
        for (int what : new int[] {-1, 7, 8, LOWEST, HIGHEST}) {
            for (int k = 0; k < 3; k++) {
                int asked = k;
                unchanged(tree, "node(" + k + ", " + what + ")", () -> tree.node(asked, what), BAD);
            }
        }
        goesOnInUse(tree);
        noneSuchAnyMore();
        due("node(134, 0)", packed400().node(134, 0), 0);
        due("node(135, 0)", packed400().node(135, 0), BAD);

        promise(14, "BAD .. the empty root's RECTANGLE");
        AreaTree empty = new AreaTree(4, 2);
        int[] none = {0, 0, BAD, BAD, BAD, BAD, NONE, BAD};
        for (int what = 0; what < none.length; what++) {
            due("node(0, " + what + ")", empty.node(0, what), none[what]);
        }
        point(empty, 1, 0, 0);
        int[] one = {0, 1, 0, 0, 0, 0, NONE, BAD};
        for (int what = 0; what < one.length; what++) {
            due("node(0, " + what + ") with one", empty.node(0, what), one[what]);
        }
    }

    /** Numbers that nodes had before are none any more. */
    private static void noneSuchAnyMore() {
        AreaTree packed = row(4, 2, 400);
        int before = packed.count(2);
        packed.pack();
        AreaTree thinned = row(4, 2, 14);
        takeFromLine(thinned, 13);
        AreaTree cleared = row(4, 2, 14);
        cleared.clear();
        for (AreaTree tree : new AreaTree[] {packed, thinned, cleared}) {
            for (int k = tree.count(2); k < before + 2; k++) {
                due("node(" + k + ", 0)", tree.node(k, 0), BAD);
                due("held(" + k + ", 0, 0)", tree.held(k, 0, 0), BAD);
            }
        }
    }

    private static AreaTree packed400() {
        AreaTree tree = row(4, 2, 400);
        tree.pack();
        return tree;
    }

    private static void held() {
        promise(15, "Of the i-th that a NODE holds: 0 an ENTRY's id, or a NODE's number, 1 to 4 x1, y1, x2, y2");
        AreaTree tree = inUse();
        int[][] nodes = {{1, 0, 0, 1, 1}, {2, 8, 8, 9, 9}};
        int[][] entries = {{2, 9, 9, 9, 9}, {4, 8, 8, 8, 8}};
        for (int i = 0; i < 2; i++) {
            for (int what = 0; what < 5; what++) {
                due("held(0, " + i + ", " + what + ")", tree.held(0, i, what), nodes[i][what]);
                due("held(2, " + i + ", " + what + ")", tree.held(2, i, what), entries[i][what]);
            }
        }

        promise(15, "BAD: none such");
        for (int what = -1; what <= 5; what++) {
            int asked = what;
            for (int odd : new int[] {-1, 2, 3, 4, 5, LOWEST, HIGHEST}) {
                unchanged(tree, "held(0, " + odd + ", " + what + ")", () -> tree.held(0, odd, asked), BAD);
                unchanged(tree, "held(2, " + odd + ", " + what + ")", () -> tree.held(2, odd, asked), BAD);
            }
            for (int odd : new int[] {-1, 3, 4, 400, LOWEST, HIGHEST}) {
                unchanged(tree, "held(" + odd + ", 0, " + what + ")", () -> tree.held(odd, 0, asked), BAD);
            }
        }
        for (int odd : new int[] {-1, 5, 6, LOWEST, HIGHEST}) {
            unchanged(tree, "held(0, 0, " + odd + ")", () -> tree.held(0, 0, odd), BAD);
            unchanged(tree, "held(1, 2, " + odd + ")", () -> tree.held(1, 2, odd), BAD);
        }
        goesOnInUse(tree);
        AreaTree empty = new AreaTree(4, 2);
        due("held(0, 0, 0), empty", empty.held(0, 0, 0), BAD);
        point(empty, 9, 1, 2);
        due("held(0, 0, 0), one", empty.held(0, 0, 0), 9);
        due("held(0, 1, 0), one", empty.held(0, 1, 0), BAD);
        AreaTree leaf = row(10, 5, 10);
        due("held(0, 9, 0), M", leaf.held(0, 9, 0), 9);
        due("held(0, 10, 0), M", leaf.held(0, 10, 0), BAD);
    }

    private static void audit() throws ReflectiveOperationException {
        promise(16, "Whether all is as NODES are told");
        due("empty", new AreaTree(4, 2).audit(), true);
        due("full", full().audit(), true);
        due("packed", packed400().audit(), true);
        forAllBounds((most, least) -> {
            AreaTree tree = new AreaTree(most, least);
            for (int i = 0; i < 120; i++) {
                tree.insert(i, i * 37 % 101, i * 53 % 97, i * 37 % 101 + i % 7, i * 53 % 97 + i % 5);
            }
            for (int i = 0; i < 120; i++) {
                due("audit()", tree.audit(), true);
                tree.remove(i, i * 37 % 101, i * 53 % 97, i * 37 % 101 + i % 7, i * 53 % 97 + i % 5);
            }
            due("audit(), emptied", tree.audit(), true);
        });
        AreaTree used = inUse();
        unchanged(used, "audit()", () -> used.audit() ? 1 : 0, 1);
        goesOnInUse(used);
        auditHowMany();
        auditTheRest();
    }

    /** Leaf 1 has 3 and leaf 2 has 2: with N 2 and M 3 both are well yet, with N 3 or M 2 they are not. */
    private static void auditHowMany() throws ReflectiveOperationException {
        promise(16, "how many they hold");
        AreaTree tree = twoLeaves();
        Object store = inside(tree, "store");
        field(store, "most").setInt(store, 3);
        due("audit(), M are held", tree.audit(), true);
        field(store, "most").setInt(store, 2);
        due("audit(), more than M are held", tree.audit(), false);
        field(store, "most").setInt(store, 4);
        field(store, "least").setInt(store, 3);
        due("audit(), less than N are held", tree.audit(), false);
        field(store, "least").setInt(store, 2);
        due("audit(), as it was", tree.audit(), true);
        // The root holds one leaf only, and its rectangle is that leaf's.
        int[] order = (int[]) inside(inside(tree, "tree"), "order");
        inStore(tree, "size")[order[0]] = 1;
        inStore(tree, "x2")[order[0]] = 1;
        inStore(tree, "y2")[order[0]] = 1;
        due("audit(), the root holds one", tree.audit(), false);
    }

    private static void auditTheRest() throws ReflectiveOperationException {
        promise(16, "their RECTANGLES");
        for (String side : new String[] {"x1", "y1", "x2", "y2"}) {
            for (int k = 0; k < 3; k++) {
                auditsOneOff(side, k, 1);
                auditsOneOff(side, k, -1);
            }
        }
        promise(16, "LEVELS");
        for (int k = 0; k < 3; k++) {
            auditsOneOff("level", k, 1);
            auditsOneOff("level", k, -1);
        }
        for (int entry = 0; entry < 5; entry++) {
            AreaTree tree = twoLeaves();
            inStore(tree, "level")[entry]++;
            due("audit(), entry " + entry + " as if it were a leaf", tree.audit(), false);
        }
        promise(16, "no ENTRY is there twice");
        AreaTree twice = new AreaTree(4, 2);
        twice.insert(1, 5, 5, 6, 6);
        twice.insert(2, 5, 5, 6, 6);
        due("audit() of two", twice.audit(), true);
        inStore(twice, "name")[1] = 1;
        due("audit() of one twice", twice.audit(), false);
    }

    private static void auditsOneOff(String row, int k, int by) throws ReflectiveOperationException {
        AreaTree tree = twoLeaves();
        int[] values = inStore(tree, row);
        int slot = ((int[]) inside(inside(tree, "tree"), "order"))[k];
        values[slot] += by;
        due("audit(), " + row + " of node " + k + " by " + by, tree.audit(), false);
        values[slot] -= by;
        due("audit(), " + row + " of node " + k + " as it was", tree.audit(), true);
    }

    private static int[] inStore(AreaTree tree, String name) throws ReflectiveOperationException {
        return (int[]) inside(inside(tree, "store"), name);
    }
}
