/** Each promise of the document by cases worked out by hand: ordinary calls, the edges, wrong inputs. */
public final class PromiseTest extends Checks {
    private static final int[] WRONG = {Integer.MIN_VALUE, -2, -1, 9, 10, 400, Integer.MAX_VALUE};

    public static void main(String[] args) throws ReflectiveOperationException {
        newObject();
        insertAnswers();
        insertChooses();
        insertSplits();
        removes();
        opensWindow();
        goesOn();
        countsIn();
        findsNearest();
        tellsDistance();
        findsPairs();
        tellsVisited();
        packs();
        clears();
        tellsCounts();
        tellsNodes();
        tellsHeld();
        audits();
        auditsBrokenTrees();
        finish();
    }

    private static void bounds(int most, int least, int m, int n) {
        AreaTree tree = new AreaTree(most, least);
        due("M of " + most + ", " + least, tree.count(6), m);
        due("N of " + most + ", " + least, tree.count(7), n);
    }

    private static void newObject() {
        promise(1);
        bounds(4, 2, 4, 2);
        bounds(3, 1, 4, 2);
        bounds(11, 6, 10, 5);
        bounds(10, 5, 10, 5);
        bounds(5, 3, 5, 2);
        bounds(9, 9, 9, 4);
        bounds(7, 3, 7, 3);
        bounds(8, 0, 8, 2);
        bounds(Integer.MIN_VALUE, Integer.MIN_VALUE, 4, 2);
        bounds(Integer.MAX_VALUE, Integer.MAX_VALUE, 10, 5);
        AreaTree tree = new AreaTree(6, 3);
        due("count(0)", tree.count(0), 0);
        due("count(1)", tree.count(1), 1);
        due("count(2)", tree.count(2), 1);
        due("node(0, 0)", tree.node(0, 0), 0);
        due("node(0, 1)", tree.node(0, 1), 0);
        due("audit()", tree.audit(), true);
        due("BAD", AreaTree.BAD, -1);
        due("NONE", AreaTree.NONE, -2);
    }

    private static void insertAnswers() {
        promise(2);
        AreaTree tree = new AreaTree(4, 2);
        due("the first", tree.insert(0, 0, 0, 0, 0), 1);
        due("the last id, all places", tree.insert(999, 0, 0, 32767, 32767), 2);
        due("the last place", tree.insert(1, 32767, 32767, 32767, 32767), 3);
        due("the same rectangle, another id", tree.insert(2, 0, 0, 0, 0), 4);
        due("the same id, another rectangle", tree.insert(2, 0, 0, 0, 1), 5);
        due("one alike", tree.insert(2, 0, 0, 0, 1), NONE);
        due("id -1", tree.insert(-1, 0, 0, 1, 1), BAD);
        due("id 1000", tree.insert(1000, 0, 0, 1, 1), BAD);
        due("id MIN", tree.insert(Integer.MIN_VALUE, 0, 0, 1, 1), BAD);
        due("x1 above x2", tree.insert(3, 5, 0, 4, 9), BAD);
        due("y1 above y2", tree.insert(3, 0, 5, 9, 4), BAD);
        due("x1 below 0", tree.insert(3, -1, 0, 4, 4), BAD);
        due("y1 below 0", tree.insert(3, 0, -1, 4, 4), BAD);
        due("x2 too far", tree.insert(3, 0, 0, 32768, 4), BAD);
        due("y2 too far", tree.insert(3, 0, 0, 4, 32768), BAD);
        due("x2 MAX", tree.insert(3, 0, 0, Integer.MAX_VALUE, 4), BAD);
        due("y1 MIN", tree.insert(3, 0, Integer.MIN_VALUE, 4, 4), BAD);
        due("count(0)", tree.count(0), 5);

        AreaTree full = full();
        due("count(0), full", full.count(0), 400);
        due("one more", full.insert(400, 0, 0, 4, 4), -3);
        due("one alike, full", full.insert(0, 0, 0, 4, 4), NONE);
        due("id 1000, full", full.insert(1000, 0, 0, 4, 4), BAD);
        due("audit(), full", full.audit(), true);
        full.remove(0, 0, 0, 4, 4);
        due("where one went", full.insert(400, 0, 0, 4, 4), 400);
    }

    private static void insertChooses() {
        promise(2);
        AreaTree tree = twoLeaves();
        point(tree, 6, 5, 5);
        point(tree, 7, 4, 4);
        holds(tree, 1, 1, 5, 3);
        holds(tree, 2, 2, 4, 6, 7);

        // Both leaves have the place already: the one of less area is chosen, though it lies behind.
        AreaTree inside = new AreaTree(4, 2);
        point(inside, 1, 0, 0);
        point(inside, 2, 20, 0);
        inside.insert(3, 0, 0, 0, 20);
        inside.insert(4, 0, 0, 20, 20);
        for (int i = 5; i <= 8; i++) {
            point(inside, i, i + 7, i + 7);
        }
        inside.pack();
        inside.remove(2, 20, 0, 20, 0);
        inside.remove(6, 13, 13, 13, 13);
        point(inside, 9, 13, 13);
        holds(inside, 1, 1, 3, 4);
        holds(inside, 2, 5, 7, 8, 9);

        // Both leaves have the same rectangle: the first is chosen.
        AreaTree alike = new AreaTree(4, 2);
        alike.insert(1, 0, 0, 9, 0);
        point(alike, 2, 1, 1);
        point(alike, 3, 2, 2);
        alike.insert(4, 0, 0, 0, 9);
        alike.insert(5, 9, 0, 9, 9);
        point(alike, 6, 6, 6);
        point(alike, 7, 7, 7);
        alike.insert(8, 0, 9, 9, 9);
        alike.pack();
        alike.remove(2, 1, 1, 1, 1);
        alike.remove(6, 6, 6, 6, 6);
        point(alike, 9, 5, 5);
        holds(alike, 1, 1, 3, 4, 9);
        holds(alike, 2, 5, 7, 8);
    }

    private static void insertSplits() {
        promise(2);
        AreaTree tree = twoLeaves();
        holds(tree, 0, 1, 2);
        holds(tree, 1, 1, 5, 3);
        holds(tree, 2, 2, 4);
        due("count(1)", tree.count(1), 2);
        due("count(3)", tree.count(3), 1);
        // The first leaf splits: the new one comes right behind it.
        point(tree, 6, 1, 0);
        point(tree, 7, 2, 2);
        holds(tree, 0, 1, 2, 3);
        holds(tree, 1, 1, 5, 6);
        holds(tree, 2, 7, 3);
        holds(tree, 3, 2, 4);
        due("count(3)", tree.count(3), 2);

        // Both parts would grow alike and are alike: the first part has it.
        AreaTree first = line(0, 10, 5, 5, 5);
        holds(first, 1, 1, 3, 4);
        holds(first, 2, 2, 5);
        // Both would grow alike: the one of less area has it.
        AreaTree less = new AreaTree(4, 2);
        less.insert(1, 0, 0, 1, 0);
        point(less, 2, 11, 0);
        for (int id = 3; id <= 5; id++) {
            point(less, id, 6, 0);
        }
        holds(less, 1, 1, 5);
        holds(less, 2, 2, 3, 4);
        // Both would grow alike and have the same area: the one with fewer has it.
        AreaTree fewer = line(0, 10, 5, 0, 5);
        holds(fewer, 1, 1, 4);
        holds(fewer, 2, 2, 3, 5);
        // All are alike but for their ids: the first two are the seeds.
        AreaTree same = line(3, 3, 3, 3, 3);
        holds(same, 1, 1, 3, 5);
        holds(same, 2, 2, 4);
    }

    private static void removes() {
        promise(3);
        AreaTree tree = twoLeaves();
        due("another rectangle", tree.remove(2, 9, 9, 9, 10), NONE);
        due("another id", tree.remove(3, 9, 9, 9, 9), NONE);
        due("id -1", tree.remove(-1, 9, 9, 9, 9), BAD);
        due("id 1000", tree.remove(1000, 9, 9, 9, 9), BAD);
        due("x1 above x2", tree.remove(2, 9, 9, 8, 9), BAD);
        due("y1 above y2", tree.remove(2, 9, 9, 9, 8), BAD);
        due("out of bounds", tree.remove(2, 9, 9, 32768, 9), BAD);
        due("below 0", tree.remove(2, -1, 9, 9, 9), BAD);
        // Leaf 2 has less than N then: its entry goes to leaf 1, and this is the root.
        due("remove", tree.remove(2, 9, 9, 9, 9), 4);
        due("count(1)", tree.count(1), 1);
        due("count(2)", tree.count(2), 1);
        due("count(4)", tree.count(4), 1);
        due("count(5)", tree.count(5), 1);
        holds(tree, 0, 1, 5, 3, 4);
        due("node(0, 6)", tree.node(0, 6), NONE);
        due("again", tree.remove(2, 9, 9, 9, 9), NONE);
        due("remove", tree.remove(4, 8, 8, 8, 8), 3);
        due("the rectangle is less", tree.node(0, 4), 1);
        due("count(4)", tree.count(4), 1);
        due("remove", tree.remove(1, 0, 0, 0, 0), 2);
        due("remove", tree.remove(3, 1, 1, 1, 1), 1);
        due("the last", tree.remove(5, 0, 1, 0, 1), 0);
        due("the empty root's rectangle", tree.node(0, 2), BAD);
        due("none is left", tree.remove(5, 0, 1, 0, 1), NONE);

        removesDeep();
    }

    /** The last leaf and the node that holds it go; an entry, then a leaf are put again, each with a split. */
    private static void removesDeep() {
        AreaTree tree = twentyPacked();
        int splits = tree.count(3);
        tree.remove(16, 16, 0, 16, 0);
        tree.remove(17, 17, 0, 17, 0);
        due("count(4), N are left", tree.count(4), 0);
        due("remove", tree.remove(18, 18, 0, 18, 0), 17);
        due("count(4)", tree.count(4), 2);
        due("count(5)", tree.count(5), 2);
        due("splits", tree.count(3) - splits, 2);
        holds(tree, 0, 1, 4);
        holds(tree, 1, 2, 3);
        holds(tree, 2, 0, 1, 2, 3);
        holds(tree, 3, 4, 5, 6, 7);
        holds(tree, 4, 5, 6, 7);
        holds(tree, 5, 12, 13, 14, 15);
        holds(tree, 6, 19, 11);
        holds(tree, 7, 8, 9, 10);
        due("audit()", tree.audit(), true);
    }

    private static void opensWindow() {
        promise(4);
        AreaTree tree = twoLeaves();
        due("window", tree.window(0, 0, 9, 9), 0);
        due("next()", tree.next(), 1);
        due("x1 above x2", tree.window(5, 0, 4, 9), BAD);
        due("y1 above y2", tree.window(0, 5, 9, 4), BAD);
        due("below 0", tree.window(0, -1, 9, 4), BAD);
        due("out of bounds", tree.window(0, 0, 9, 32768), BAD);
        due("next() behind wrong windows", tree.next(), 5);
        tree.insert(1, 0, 0, 0, 0);
        tree.insert(1000, 0, 0, 0, 0);
        tree.remove(1, 7, 7, 7, 7);
        tree.remove(1, 7, 7, 7, 6);
        tree.countIn(0, 0, 1, 1);
        tree.nearest(0, 0, 4);
        tree.pairs();
        tree.audit();
        due("next() behind calls that change nothing", tree.next(), 3);
        due("another window", tree.window(9, 9, 9, 9), 0);
        due("visited(0) of another window", tree.visited(0), 0);
        due("next() in another window", tree.next(), 2);
        due("all places", tree.window(0, 0, 32767, 32767), 0);
        point(tree, 6, 7, 7);
        due("next() behind insert", tree.next(), BAD);
        tree.window(0, 0, 9, 9);
        tree.remove(6, 7, 7, 7, 7);
        due("next() behind remove", tree.next(), BAD);
        tree.window(0, 0, 9, 9);
        tree.pack();
        due("next() behind pack", tree.next(), BAD);
        tree.window(0, 0, 9, 9);
        tree.clear();
        due("next() behind clear", tree.next(), BAD);
        tree.window(0, 0, 9, 9);
        tree.pack();
        due("next() behind an empty pack", tree.next(), BAD);
        tree.window(0, 0, 9, 9);
        tree.clear();
        due("next() behind an empty clear", tree.next(), BAD);
        AreaTree full = full();
        full.window(0, 0, 0, 0);
        full.insert(500, 9, 9, 9, 9);
        due("next() behind one too many", full.next(), 0);
    }

    private static void goesOn() {
        promise(5);
        AreaTree tree = twoLeaves();
        due("next(), none is open", tree.next(), BAD);
        tree.window(1, 1, 8, 8);
        due("visited(0) before", tree.visited(0), 0);
        due("next()", tree.next(), 3);
        due("visited(0)", tree.visited(0), 2);
        due("next()", tree.next(), 4);
        due("visited(0)", tree.visited(0), 3);
        due("next(), no more", tree.next(), NONE);
        due("next(), no more still", tree.next(), NONE);
        due("visited(0)", tree.visited(0), 3);
        tree.window(2, 2, 7, 7);
        due("next(), between the leaves", tree.next(), NONE);
        due("visited(0), the root alone", tree.visited(0), 1);
        tree.window(100, 100, 200, 200);
        due("next(), beside all", tree.next(), NONE);
        due("visited(0), the root all the same", tree.visited(0), 1);
        AreaTree empty = new AreaTree(4, 2);
        empty.window(0, 0, 32767, 32767);
        due("visited(0), empty", empty.visited(0), 0);
        due("next(), empty", empty.next(), NONE);
        due("visited(0), the empty root", empty.visited(0), 1);
        due("next(), empty still", empty.next(), NONE);
        due("visited(0), once", empty.visited(0), 1);
    }

    private static void countsIn() {
        promise(6);
        AreaTree tree = twoLeaves();
        due("all", tree.countIn(0, 0, 32767, 32767), 5);
        due("one place", tree.countIn(1, 1, 1, 1), 1);
        due("none", tree.countIn(2, 2, 7, 7), 0);
        due("the ends belong to it", tree.countIn(1, 1, 8, 8), 2);
        due("x1 above x2", tree.countIn(5, 0, 4, 9), BAD);
        due("y1 above y2", tree.countIn(0, 5, 4, 4), BAD);
        due("below 0", tree.countIn(-1, 0, 4, 4), BAD);
        due("out of bounds", tree.countIn(0, 32768, 4, 32768), BAD);
        tree.insert(6, 2, 2, 7, 7);
        due("corners meet", tree.countIn(7, 7, 8, 8), 2);
        tree.window(8, 8, 9, 9);
        due("next()", tree.next(), 2);
        tree.countIn(0, 0, 1, 1);
        due("the window stays", tree.next(), 4);
        due("an empty tree", new AreaTree(4, 2).countIn(0, 0, 9, 9), 0);
    }

    private static void findsNearest() {
        promise(7);
        AreaTree tree = twoLeaves();
        int[] order = {1, 5, 3, 4, 2};
        int[] squares = {0, 1, 2, 128, 162};
        int[] visited = {2, 2, 2, 3, 3};
        for (int k = 0; k < 5; k++) {
            due("nearest(0, 0, " + k + ")", tree.nearest(0, 0, k), order[k]);
            due("its distance", tree.distance(), squares[k]);
            due("its nodes", tree.visited(1), visited[k]);
        }
        due("k = count", tree.nearest(0, 0, 5), BAD);
        due("k below 0", tree.nearest(0, 0, -1), BAD);
        due("k MIN", tree.nearest(0, 0, Integer.MIN_VALUE), BAD);
        due("k MAX", tree.nearest(0, 0, Integer.MAX_VALUE), BAD);
        due("x below 0", tree.nearest(-1, 0, 0), BAD);
        due("y below 0", tree.nearest(0, -1, 0), BAD);
        due("x too far", tree.nearest(32768, 0, 0), BAD);
        due("y too far", tree.nearest(0, 32768, 0), BAD);
        due("distance() behind wrong ones", tree.distance(), 162);
        due("visited(1) behind wrong ones", tree.visited(1), 3);
        // Both leaves and their next corners are equally far: leaf 1 comes first, then its entry before leaf 2.
        due("nearest(4, 5, 0)", tree.nearest(4, 5, 0), 3);
        due("its nodes", tree.visited(1), 2);
        due("nearest(4, 5, 1)", tree.nearest(4, 5, 1), 4);
        due("its nodes", tree.visited(1), 3);

        AreaTree ties = new AreaTree(8, 2);
        ties.insert(9, 0, 2, 0, 2);
        ties.insert(3, 2, 0, 2, 0);
        ties.insert(9, 0, 0, 5, 5);
        ties.insert(9, 0, 0, 5, 4);
        ties.insert(3, 0, 0, 1, 1);
        int[] tied = {3, 9, 9, 3, 9};
        for (int k = 0; k < 5; k++) {
            due("ties, nearest(0, 0, " + k + ")", ties.nearest(0, 0, k), tied[k]);
        }
        due("an empty tree", new AreaTree(4, 2).nearest(0, 0, 0), BAD);
    }

    private static void tellsDistance() {
        promise(8);
        AreaTree tree = new AreaTree(4, 2);
        due("before all", tree.distance(), BAD);
        tree.nearest(0, 0, 0);
        due("none was told", tree.distance(), BAD);
        point(tree, 1, 32767, 32767);
        tree.nearest(0, 0, 0);
        due("from corner to corner", tree.distance(), 2147352578L);
        tree.insert(2, 10, 10, 20, 20);
        due("behind insert", tree.distance(), 2147352578L);
        int[][] places = {{10, 10, 0}, {15, 20, 0}, {9, 15, 1}, {15, 22, 4}, {7, 6, 25}, {23, 24, 25}, {21, 9, 2}};
        for (int[] place : places) {
            due("nearest", tree.nearest(place[0], place[1], 0), 2);
            due("distance from " + place[0] + ", " + place[1], tree.distance(), place[2]);
        }
        tree.remove(2, 10, 10, 20, 20);
        due("behind remove", tree.distance(), 2);
        tree.nearest(0, 0, 7);
        due("behind a wrong nearest()", tree.distance(), 2);
        tree.clear();
        due("behind clear", tree.distance(), 2);
    }

    private static void findsPairs() {
        promise(9);
        AreaTree tree = new AreaTree(4, 2);
        due("none", tree.pairs(), 0);
        tree.insert(1, 0, 0, 10, 10);
        due("one", tree.pairs(), 0);
        tree.insert(2, 0, 0, 10, 10);
        due("two alike but for ids", tree.pairs(), 1);
        tree.insert(3, 10, 10, 20, 20);
        due("corners meet", tree.pairs(), 3);
        tree.insert(4, 21, 10, 30, 20);
        due("side by side", tree.pairs(), 3);
        tree.insert(5, 5, 0, 25, 30);
        due("across leaves", tree.pairs(), 7);
        tree.remove(1, 0, 0, 10, 10);
        due("behind remove", tree.pairs(), 4);
        tree.clear();
        due("behind clear", tree.pairs(), 0);
    }

    private static void tellsVisited() {
        promise(10);
        AreaTree tree = twoLeaves();
        due("0, none is open", tree.visited(0), BAD);
        due("1, before nearest()", tree.visited(1), 0);
        due("2, leaves apart", tree.visited(2), 3);
        for (int what : WRONG) {
            due("visited(" + what + ")", tree.visited(what), BAD);
        }
        due("visited(3)", tree.visited(3), BAD);
        tree.nearest(4, 4, 4);
        due("1", tree.visited(1), 3);
        tree.insert(6, 1, 1, 8, 8);
        due("2, leaves that meet", tree.visited(2), 4);
        tree.window(0, 0, 9, 9);
        tree.next();
        due("0", tree.visited(0), 2);
        tree.clear();
        due("0, shut", tree.visited(0), BAD);
        due("1, still", tree.visited(1), 3);
        due("2, the empty root with itself", tree.visited(2), 1);
    }

    private static void packs() {
        promise(11);
        AreaTree tree = new AreaTree(4, 2);
        due("no entry", tree.pack(), 1);
        for (int i = 0; i < 9; i++) {
            point(tree, i, i, 10 - i);
        }
        // Two slices of 8 and 1; the last leaf has 8 alone and gets 0 from the one before.
        due("nine", tree.pack(), 4);
        holds(tree, 0, 1, 2, 3);
        holds(tree, 1, 7, 6, 5, 4);
        holds(tree, 2, 3, 2, 1);
        holds(tree, 3, 0, 8);
        due("audit()", tree.audit(), true);

        AreaTree above = twentyPacked();
        // Five leaves: the last node above them would hold one, and gets another from the one before.
        due("twenty", above.pack(), 8);
        due("count(1)", above.count(1), 3);
        holds(above, 0, 1, 5);
        holds(above, 1, 2, 3, 4);
        holds(above, 2, 0, 1, 2, 3);
        holds(above, 5, 6, 7);
        holds(above, 7, 16, 17, 18, 19);

        // All have the same middle: by ids, then x1, y1, x2, y2.
        AreaTree ties = new AreaTree(4, 2);
        ties.insert(5, 4, 4, 6, 6);
        ties.insert(2, 5, 4, 5, 6);
        ties.insert(5, 3, 5, 7, 5);
        ties.insert(1, 0, 0, 10, 10);
        ties.insert(5, 4, 3, 6, 7);
        due("the same middle", ties.pack(), 3);
        holds(ties, 1, 1, 2, 5);
        holds(ties, 2, 5, 5);
        due("x1 of the third", ties.held(1, 2, 1), 3);
        due("y1 of the fourth", ties.held(2, 0, 2), 3);
        due("y1 of the fifth", ties.held(2, 1, 2), 4);

        AreaTree full = full();
        due("full", full.pack(), 45);
        due("audit(), full", full.audit(), true);
        due("packed again", full.pack(), 45);
    }

    private static void clears() {
        promise(12);
        AreaTree tree = twoLeaves();
        tree.remove(2, 9, 9, 9, 9);
        due("clear()", tree.clear(), 4);
        due("again", tree.clear(), 0);
        int[] counts = {0, 1, 1, 1, 1, 1, 4, 2};
        for (int what = 0; what < 8; what++) {
            due("count(" + what + ")", tree.count(what), counts[what]);
        }
        due("audit()", tree.audit(), true);
        due("node(0, 2)", tree.node(0, 2), BAD);
        due("node(1, 0)", tree.node(1, 0), BAD);
        due("nothing to remove", tree.remove(1, 0, 0, 0, 0), NONE);
        due("what was there before", tree.insert(1, 0, 0, 0, 0), 1);
        due("a full one", full().clear(), 400);
    }

    private static void tellsCounts() {
        promise(13);
        AreaTree tree = twoLeaves();
        int[] before = {5, 2, 3, 1, 0, 0, 4, 2};
        for (int what = 0; what < 8; what++) {
            due("count(" + what + ")", tree.count(what), before[what]);
        }
        for (int what : WRONG) {
            due("count(" + what + ")", tree.count(what), BAD);
        }
        due("count(8)", tree.count(8), BAD);
        tree.remove(4, 8, 8, 8, 8);
        tree.pack();
        int[] after = {4, 1, 1, 1, 1, 1, 4, 2};
        for (int what = 0; what < 8; what++) {
            due("count(" + what + ") behind remove and pack", tree.count(what), after[what]);
        }
    }

    private static void tellsNodes() {
        promise(14);
        AreaTree tree = twoLeaves();
        int[][] due = {{1, 2, 0, 0, 9, 9, NONE}, {0, 3, 0, 0, 1, 1, 0}, {0, 2, 8, 8, 9, 9, 0}};
        for (int k = 0; k < 3; k++) {
            for (int what = 0; what < 7; what++) {
                due("node(" + k + ", " + what + ")", tree.node(k, what), due[k][what]);
            }
            due("node(" + k + ", 7)", tree.node(k, 7), BAD);
        }
        for (int odd : WRONG) {
            due("node(0, " + odd + ")", tree.node(0, odd), BAD);
            due("node(" + odd + ", 0)", tree.node(odd, 0), BAD);
        }
        due("node(3, 0)", tree.node(3, 0), BAD);
        AreaTree deep = twentyPacked();
        int[] holders = {NONE, 0, 1, 1, 1, 0, 5, 5};
        int[] levels = {2, 1, 0, 0, 0, 1, 0, 0};
        for (int k = 0; k < 8; k++) {
            due("node(" + k + ", 6)", deep.node(k, 6), holders[k]);
            due("node(" + k + ", 0)", deep.node(k, 0), levels[k]);
        }
        AreaTree empty = new AreaTree(4, 2);
        for (int what = 2; what <= 5; what++) {
            due("the empty root's " + what, empty.node(0, what), BAD);
        }
        due("the empty root's holder", empty.node(0, 6), NONE);
    }

    private static void tellsHeld() {
        promise(15);
        AreaTree tree = twoLeaves();
        tree.insert(6, 7, 6, 8, 9);
        int[][] due = {{2, 9, 9, 9, 9}, {4, 8, 8, 8, 8}, {6, 7, 6, 8, 9}};
        for (int i = 0; i < 3; i++) {
            for (int what = 0; what < 5; what++) {
                due("held(2, " + i + ", " + what + ")", tree.held(2, i, what), due[i][what]);
            }
        }
        int[] second = {2, 7, 6, 9, 9};
        for (int what = 0; what < 5; what++) {
            due("held(0, 1, " + what + ")", tree.held(0, 1, what), second[what]);
        }
        for (int odd : WRONG) {
            due("held(0, 0, " + odd + ")", tree.held(0, 0, odd), BAD);
            due("held(0, " + odd + ", 0)", tree.held(0, odd, 0), BAD);
            due("held(" + odd + ", 0, 0)", tree.held(odd, 0, 0), BAD);
        }
        due("held(0, 0, 5)", tree.held(0, 0, 5), BAD);
        due("held(0, 2, 0)", tree.held(0, 2, 0), BAD);
        due("held(2, 3, 0)", tree.held(2, 3, 0), BAD);
        due("held(3, 0, 0)", tree.held(3, 0, 0), BAD);
        due("held in an empty root", new AreaTree(4, 2).held(0, 0, 0), BAD);
    }

    private static void audits() {
        promise(16);
        AreaTree tree = new AreaTree(5, 2);
        due("an empty tree", tree.audit(), true);
        for (int i = 0; i < 300; i++) {
            tree.insert(i, i * 37 % 101, i * 53 % 97, i * 37 % 101 + i % 7, i * 53 % 97 + i % 5);
            due("audit() behind insert " + i, tree.audit(), true);
        }
        tree.pack();
        due("audit() behind pack", tree.audit(), true);
        for (int i = 0; i < 300; i++) {
            tree.remove(i, i * 37 % 101, i * 53 % 97, i * 37 % 101 + i % 7, i * 53 % 97 + i % 5);
            due("audit() behind remove " + i, tree.audit(), true);
        }
    }

    /** No call breaks a tree, so that only a hand inside it can show that audit() looks at all. */
    private static void auditsBrokenTrees() throws ReflectiveOperationException {
        promise(16);
        for (String row : new String[] {"x1", "y1", "x2", "y2", "level", "size"}) {
            AreaTree tree = twoLeaves();
            int[] values = inStore(tree, row);
            int slot = ((int[]) inside(inside(tree, "tree"), "order"))[1];
            values[slot]++;
            due("audit() with another " + row, tree.audit(), false);
            values[slot]--;
            due("audit() with " + row + " again", tree.audit(), true);
        }
        AreaTree twice = new AreaTree(4, 2);
        twice.insert(1, 5, 5, 6, 6);
        twice.insert(2, 5, 5, 6, 6);
        due("audit() of two", twice.audit(), true);
        inStore(twice, "name")[1] = 1;
        due("audit() of one twice", twice.audit(), false);
    }

    private static int[] inStore(AreaTree tree, String name) throws ReflectiveOperationException {
        return (int[]) inside(inside(tree, "store"), name);
    }
}
