/**
 * The bounds that the document's sections "What it is", "The public face" and "Terms" name, each
 * sentence by a test of its own; the promises whose calls show it stand before its words.
 */
public final class TermsBoundTest extends Checks {
    public static void main(String[] args) {
        lastCall();
        lastCallOfSplits();
        lastCallOfPacks();
        constants();
        rectangleHasItsEnds();
        placesAreBounded();
        areaHasItsEnds();
        areaBothWays();
        areaOnEverySide();
        areaOfAllPlaces();
        meetingIsOnePlace();
        idsAreBounded();
        entriesAreBounded();
        entriesDifferInOne();
        leavesHoldUpToM();
        othersHoldUpToM();
        leavesHoldNOrMore();
        othersHoldNOrMore();
        rectangleIsTheLeast();
        emptyRootHasNone();
        rootMayHaveFewer();
        rootHoldsTwoElse();
        leavesAreEquallyFar();
        growsLeast();
        leastArea();
        ofTheseTheFirst();
        comesBehindAll();
        newNodeRightBehind();
        newRootWithBoth();
        firstGreatestPair();
        partsBeginWithSeeds();
        firstPartNeedsAll();
        secondPartNeedsAll();
        differMost();
        partThatGrowsLess();
        partOfLessArea();
        partWithFewer();
        thenToTheFirst();
        homelessInOrder();
        homelessOfTheirLevel();
        rootGoesAtLast();
        rootStaysWithTwo();
        numbersFromTheRoot();
        rootIsReadWhateverItIs();
        nodesAreReadThatMeet();
        nodesAreReadWhenNeeded();
        distanceWithin();
        distanceOfAllPlaces();
        entriesBeforeNodes();
        entriesByIds();
        nodesByNumbers();
        finish();
    }

    /** Ends with the call that is number 512 since the object was made. */
    private static void lastCall() {
        sentence("promises 2 to 5 and 16, what it is", "An object is used for at most 512 calls after it has been made");
        AreaTree tree = new AreaTree(4, 2);
        for (int i = 0; i < 255; i++) {
            due("call " + (i + 1), tree.insert(i, i, i, i + 9, i + 9), i + 1);
        }
        for (int i = 0; i < 254; i++) {
            due("call " + (i + 256), tree.remove(i, i, i, i + 9, i + 9), 254 - i);
        }
        due("call 510", tree.window(0, 0, LAST, LAST), 0);
        due("call 511", tree.next(), 254);
        due("call 512", tree.audit(), true);
        // What comes later answers as it likes, but must answer.
        for (int i = 0; i < 2000; i++) {
            tree.insert(i % 1000, i, i, i + 9, i + 9);
            tree.next();
            tree.nearest(i, i, i % 400);
        }
    }

    /** Every call splits a leaf or thins one out: nodes that went must make room for new ones. */
    private static void lastCallOfSplits() {
        sentence("promises 2, 3 and 13", "at most 512 calls, each with a SPLIT or a NODE that goes");
        AreaTree tree = row(4, 2, 4);
        for (int i = 1; i <= 250; i++) {
            due("insert", tree.insert(4, 4, 0, 4, 0), 5);
            due("remove", takeFromLine(tree, 4), 4);
        }
        counts(tree, 4, 1, 1, 250, 250, 250);
        due("audit()", tree.audit(), true);
        due("held(0, 3, 0)", tree.held(0, 3, 0), 3);
    }

    private static void lastCallOfPacks() {
        sentence("promise 11", "at most 512 calls, a hundred of them pack() with 400 ENTRIES");
        AreaTree tree = row(4, 2, 400);
        for (int i = 0; i < 110; i++) {
            due("pack()", tree.pack(), 135);
        }
        due("audit()", tree.audit(), true);
        due("the last id", tree.held(134, 3, 0), 399);
    }

    private static void constants() {
        sentence("promises 2 to 15, the public face", "public static final int BAD = -1, NONE = -2");
        due("BAD", AreaTree.BAD, -1);
        due("NONE", AreaTree.NONE, -2);
    }

    private static void rectangleHasItsEnds() {
        sentence("promises 2 and 6, RECTANGLE", "places x1 .. x2, y1 .. y2 (with their ends)");
        AreaTree tree = new AreaTree(4, 2);
        tree.insert(1, 10, 30, 20, 40);
        int[][] ends = {{10, 30}, {20, 30}, {10, 40}, {20, 40}};
        for (int[] end : ends) {
            due("the end " + end[0] + ", " + end[1], tree.countIn(end[0], end[1], end[0], end[1]), 1);
        }
        int[][] beyond = {{9, 30}, {9, 40}, {21, 30}, {21, 40}, {10, 29}, {20, 29}, {10, 41}, {20, 41}};
        for (int[] place : beyond) {
            due("beyond, " + place[0] + ", " + place[1], tree.countIn(place[0], place[1], place[0], place[1]), 0);
        }
    }

    private static void placesAreBounded() {
        sentence("promises 2 and 14, RECTANGLE", "each 0 .. 32,767");
        AreaTree tree = new AreaTree(4, 2);
        due("all places", tree.insert(1, 0, 0, LAST, LAST), 1);
        rectangle(tree, 0, 0, 0, 32767, 32767);
        int[] good = {5, 5, 9, 9};
        for (int side = 0; side < 4; side++) {
            for (int beyond : new int[] {-1, 32768, Integer.MIN_VALUE, Integer.MAX_VALUE}) {
                int[] r = good.clone();
                r[side] = beyond;
                unchanged(tree, "side " + side + " at " + beyond, () -> tree.insert(2, r[0], r[1], r[2], r[3]), BAD);
            }
        }
        due("the first place", tree.insert(2, 0, 0, 0, 0), 2);
        due("the last place", tree.insert(2, LAST, LAST, LAST, LAST), 3);
    }

    /** Leaf 1 has 0, 2 and 3, leaf 2 has 9, 11 and 12, on one line, and each has room for one more. */
    private static AreaTree twoOnALine() {
        AreaTree tree = new AreaTree(4, 2);
        for (int x : new int[] {0, 1, 2, 3, 9, 10, 11, 12}) {
            point(tree, x, x, 0);
        }
        tree.pack();
        takeFromLine(tree, 1);
        takeFromLine(tree, 10);
        return tree;
    }

    /** On a line all areas would be 0, and the first leaf chosen, if the ends did not count. */
    private static void areaHasItsEnds() {
        sentence("promise 2, RECTANGLE", "its AREA is how many places it has");
        AreaTree tree = twoOnALine();
        point(tree, 8, 8, 0);
        holds(tree, 1, 0, 2, 3);
        holds(tree, 2, 9, 11, 12, 8);
    }

    /**
     * One leaf has the places 0 to 5 of a line, the other one 9 to 11. With 6 the first grows by
     * one and the second by three, though it would have one place less than the first.
     */
    private static void areaBothWays() {
        sentence("promise 2, RECTANGLE", "its AREA is how many places it has, whichever way they lie");
        int[] places = {0, 1, 2, 5, 9, 10, 11};
        AreaTree across = new AreaTree(4, 2);
        AreaTree along = new AreaTree(4, 2);
        for (int at : places) {
            point(across, at, at, 0);
            point(along, at, 0, at);
        }
        across.pack();
        along.pack();
        across.remove(1, 1, 0, 1, 0);
        along.remove(1, 0, 1, 0, 1);
        point(across, 6, 6, 0);
        point(along, 6, 0, 6);
        for (AreaTree tree : new AreaTree[] {across, along}) {
            holds(tree, 1, 0, 2, 5, 6);
            holds(tree, 2, 9, 10, 11);
        }
        AreaTree column = new AreaTree(4, 2);
        for (int y = 0; y < 14; y++) {
            point(column, y, 0, y);
        }
        counts(column, 14, 3, 8, 5);
        holds(column, 2, 0, 1, 2);
        holds(column, 3, 3, 4, 5);
        holds(column, 4, 6, 7, 8);
        holds(column, 6, 13, 12);
        holds(column, 7, 9, 10, 11);
        rectangle(column, 1, 0, 0, 0, 8);
        rectangle(column, 5, 0, 9, 0, 13);
    }

    /**
     * A column of ten places and, beyond it, a row of ten: with the place between them the column's
     * rectangle would grow by 81 and the row's by 60, though the place lies nearer to the column.
     */
    private static void areaOnEverySide() {
        sentence("promise 2, RECTANGLE", "its AREA is how many places it has, on whichever side it grows");
        int[][] things = {{0, 0}, {0, 3}, {0, 5}, {0, 9}, {1, 18}, {4, 18}, {6, 18}, {10, 18}, {6, 12}};
        for (int way = 0; way < 4; way++) {
            AreaTree tree = new AreaTree(4, 2);
            for (int id = 0; id < 8; id++) {
                int[] at = turned(things[id], way);
                point(tree, id, at[0], at[1]);
            }
            tree.pack();
            for (int id = 2; id <= 6; id += 4) {
                int[] at = turned(things[id], way);
                tree.remove(id, at[0], at[1], at[0], at[1]);
            }
            int[] between = turned(things[8], way);
            point(tree, 8, between[0], between[1]);
            int row = way == 2 ? 1 : 2;
            holds(tree, row, 4, 5, 7, 8);
            due("the column holds", tree.node(3 - row, 1), 3);
        }
    }

    private static int[] turned(int[] place, int way) {
        int x = place[0], y = place[1];
        switch (way) {
            case 0:
                return new int[] {x, y};
            case 1:
                return new int[] {y, x};
            case 2:
                return new int[] {x, 30 - y};
            default:
                return new int[] {30 - y, x};
        }
    }

    /** Areas of 2^30 each: two of them together would leave an int. */
    private static void areaOfAllPlaces() {
        sentence("promise 2, RECTANGLE", "AREA of places 0 .. 32,767, with no wrap-around");
        AreaTree alike = new AreaTree(4, 2);
        for (int id = 1; id <= 5; id++) {
            alike.insert(id, 0, 0, LAST, LAST);
        }
        holds(alike, 1, 1, 3, 5);
        holds(alike, 2, 2, 4);
        AreaTree one = new AreaTree(4, 2);
        for (int id = 1; id <= 4; id++) {
            one.insert(id, 0, 0, LAST, LAST);
        }
        one.insert(5, 0, 0, 0, 0);
        holds(one, 1, 1, 2, 3);
        holds(one, 2, 5, 4);
        // The first leaf has all places and the second all but a row: the second grows by 32,768.
        AreaTree choice = new AreaTree(4, 2);
        choice.insert(1, 0, 0, LAST, LAST);
        choice.insert(2, 0, 0, LAST, LAST);
        choice.insert(3, 0, 0, LAST, LAST);
        point(choice, 4, 0, 0);
        choice.insert(5, 0, 0, LAST, LAST - 1);
        holds(choice, 1, 1, 2, 3);
        holds(choice, 2, 4, 5);
        choice.insert(6, 0, 0, 0, LAST);
        holds(choice, 1, 1, 2, 3, 6);
        choice.insert(7, 0, 0, 0, LAST - 1);
        holds(choice, 2, 4, 5, 7);
    }

    private static void meetingIsOnePlace() {
        sentence("promises 6 and 9, RECTANGLE", "two MEET, if some place is in both");
        int[][] meeting = {
            {20, 20, 30, 30}, {0, 0, 10, 10}, {20, 0, 30, 10}, {0, 20, 10, 30},
            {20, 10, 20, 20}, {0, 20, 30, 20}, {12, 12, 13, 13}, {0, 0, 99, 99}, {15, 0, 15, 99},
        };
        int[][] apart = {
            {21, 20, 30, 30}, {20, 21, 30, 30}, {0, 0, 9, 10}, {0, 0, 10, 9}, {21, 0, 30, 10}, {20, 0, 30, 9},
            {0, 20, 9, 30}, {0, 21, 10, 30}, {21, 10, 21, 20}, {0, 21, 30, 21}, {9, 0, 9, 99},
        };
        for (int[] r : meeting) {
            meets(r, 1);
        }
        for (int[] r : apart) {
            meets(r, 0);
        }
    }

    private static void meets(int[] r, int due) {
        AreaTree tree = new AreaTree(4, 2);
        tree.insert(1, 10, 10, 20, 20);
        String call = "(" + r[0] + ", " + r[1] + ", " + r[2] + ", " + r[3] + ")";
        due("countIn" + call, tree.countIn(r[0], r[1], r[2], r[3]), due);
        tree.window(r[0], r[1], r[2], r[3]);
        due("next() in" + call, tree.next(), due == 1 ? 1 : NONE);
        tree.insert(2, r[0], r[1], r[2], r[3]);
        due("pairs() with" + call, tree.pairs(), due);
    }

    private static void idsAreBounded() {
        sentence("promises 2 and 3, ENTRY", "an id (0 .. 999)");
        AreaTree tree = new AreaTree(4, 2);
        due("id 0", tree.insert(0, 1, 1, 2, 2), 1);
        due("id 999", tree.insert(999, 1, 1, 2, 2), 2);
        holds(tree, 0, 0, 999);
        for (int id : new int[] {-1, 1000, Integer.MIN_VALUE, Integer.MAX_VALUE}) {
            unchanged(tree, "insert " + id, () -> tree.insert(id, 1, 1, 2, 2), BAD);
            unchanged(tree, "remove " + id, () -> tree.remove(id, 1, 1, 2, 2), BAD);
        }
        due("id 0 goes", tree.remove(0, 1, 1, 2, 2), 1);
        due("id 999 goes", tree.remove(999, 1, 1, 2, 2), 0);
    }

    private static void entriesAreBounded() {
        sentence("promise 2, ENTRY", "at most 400");
        forAllBounds((most, least) -> {
            AreaTree tree = row(most, least, 399);
            due("entry 400", tree.insert(399, 399, 0, 399, 0), 400);
            due("audit() of 400", tree.audit(), true);
            due("entry 401", tree.insert(400, 400, 0, 400, 0), TOO_MANY);
            due("count(0)", tree.count(0), 400);
            due("all are there", tree.countIn(0, 0, LAST, LAST), 400);
        });
    }

    private static void entriesDifferInOne() {
        sentence("promise 2, ENTRY", "no two alike in all");
        int[] one = {500, 10, 10, 20, 20};
        for (int part = 0; part < 5; part++) {
            for (int by = -1; by <= 1; by++) {
                AreaTree tree = new AreaTree(4, 2);
                tree.insert(one[0], one[1], one[2], one[3], one[4]);
                int[] e = one.clone();
                e[part] += by;
                due("part " + part + " by " + by, tree.insert(e[0], e[1], e[2], e[3], e[4]), by == 0 ? NONE : 2);
                due("count(0)", tree.count(0), by == 0 ? 1 : 2);
            }
        }
    }

    private static void leavesHoldUpToM() {
        sentence("promises 2 and 14", "NODES hold up to M .. of ENTRIES");
        forAllBounds((most, least) -> {
            AreaTree tree = row(most, least, most);
            counts(tree, most, 1, 1, 0);
            due("node(0, 1)", tree.node(0, 1), most);
            point(tree, most, most, 0);
            counts(tree, most + 1, 2, 3, 1);
        });
    }

    private static void othersHoldUpToM() {
        sentence("promises 2 and 14", "NODES hold up to M .. of NODES (of the LEVEL below)");
        forAllBounds((most, least) -> {
            AreaTree tree = row(most, least, most * most);
            tree.pack();
            counts(tree, most * most, 2, most + 1);
            due("node(0, 1)", tree.node(0, 1), most);
            int splits = tree.count(3);
            point(tree, 999, most * most, 0);
            counts(tree, most * most + 1, 3, most + 4, splits + 2);
            due("node(0, 1)", tree.node(0, 1), 2);
        });
        AreaTree grown = row(4, 2, 13);
        counts(grown, 13, 2, 5, 3);
        point(grown, 13, 13, 0);
        counts(grown, 14, 3, 8, 5);
    }

    private static int[] from(int first, int last) {
        int[] row = new int[last - first + 1];
        for (int i = 0; i < row.length; i++) {
            row[i] = first + i;
        }
        return row;
    }

    private static int[] join(int[] a, int[] b) {
        int[] row = java.util.Arrays.copyOf(a, a.length + b.length);
        System.arraycopy(b, 0, row, a.length, b.length);
        return row;
    }

    private static void leavesHoldNOrMore() {
        sentence("promises 3 and 13", "but for the root at least N, of ENTRIES");
        forAllBounds((most, least) -> {
            AreaTree tree = row(most, least, most + 1);
            for (int x = 0; x < most + 1 - 2 * least; x++) {
                takeFromLine(tree, x);
            }
            holds(tree, 1, from(most + 1 - 2 * least, most - least));
            counts(tree, 2 * least, 2, 3, 1, 0, 0);
            due("one more", takeFromLine(tree, most - least), 2 * least - 1);
            counts(tree, 2 * least - 1, 1, 1, 1, 1, least - 1);
        });
    }

    /** A line packed so that the last node above the leaves holds so many of them. */
    private static AreaTree lastNodeOf(int most, int least, int leaves) {
        AreaTree tree = row(most, least, (most + leaves) * most);
        tree.pack();
        return tree;
    }

    /** Takes from the last leaf till it has N, then one more. */
    private static void dropLastLeaf(AreaTree tree, int most, int least) {
        int last = tree.count(0) - 1;
        for (int i = 0; i < most - least; i++) {
            takeFromLine(tree, last - i);
        }
        due("count(4), N are left", tree.count(4), 0);
        takeFromLine(tree, last - most + least);
    }

    private static void othersHoldNOrMore() {
        sentence("promises 3 and 13", "but for the root at least N, of NODES (of the LEVEL below)");
        forAllBounds((most, least) -> {
            AreaTree stays = lastNodeOf(most, least, least + 1);
            int last = stays.held(0, 1, 0);
            due("it holds", stays.node(last, 1), least + 1);
            dropLastLeaf(stays, most, least);
            due("count(4), N leaves are left", stays.count(4), 1);
            due("count(5), N leaves are left", stays.count(5), least - 1);
            due("audit()", stays.audit(), true);
            AreaTree goes = lastNodeOf(most, least, least);
            due("it holds", goes.node(goes.held(0, 1, 0), 1), least);
            dropLastLeaf(goes, most, least);
            due("count(4), less are left", goes.count(4), 2);
            due("count(5), less are left", goes.count(5), 2 * (least - 1));
            due("audit()", goes.audit(), true);
        });
    }

    private static void rectangleIsTheLeast() {
        sentence("promise 14", "A NODE's RECTANGLE is the least one in which all are that it holds");
        AreaTree tree = twentyPacked();
        rectangle(tree, 0, 0, 0, 19, 0);
        rectangle(tree, 1, 0, 0, 11, 0);
        rectangle(tree, 2, 0, 0, 3, 0);
        takeFromLine(tree, 0);
        rectangle(tree, 0, 1, 0, 19, 0);
        rectangle(tree, 1, 1, 0, 11, 0);
        rectangle(tree, 2, 1, 0, 3, 0);
        point(tree, 50, 2, 7);
        rectangle(tree, 0, 1, 0, 19, 7);
        rectangle(tree, 1, 1, 0, 11, 7);
        rectangle(tree, 2, 1, 0, 3, 7);
        due("held(1, 0, 4)", tree.held(1, 0, 4), 7);
        tree.remove(50, 2, 7, 2, 7);
        rectangle(tree, 0, 1, 0, 19, 0);
        rectangle(tree, 1, 1, 0, 11, 0);
        rectangle(tree, 2, 1, 0, 3, 0);
        takeFromLine(tree, 19);
        rectangle(tree, 0, 1, 0, 18, 0);
        rectangle(tree, 5, 12, 0, 18, 0);
        rectangle(tree, 7, 16, 0, 18, 0);
    }

    private static void emptyRootHasNone() {
        sentence("promises 3 and 14", "the empty root has none");
        AreaTree tree = new AreaTree(4, 2);
        rectangle(tree, 0, BAD, BAD, BAD, BAD);
        tree.insert(1, 3, 4, 5, 6);
        rectangle(tree, 0, 3, 4, 5, 6);
        tree.remove(1, 3, 4, 5, 6);
        rectangle(tree, 0, BAD, BAD, BAD, BAD);
        // Nothing of what was there before may be left in the next one's rectangle.
        tree.insert(1, 7, 8, 9, 10);
        rectangle(tree, 0, 7, 8, 9, 10);
    }

    private static void rootMayHaveFewer() {
        sentence("promises 3 and 14", "The root alone may be a LEAF with fewer");
        AreaTree tree = row(10, 5, 5);
        for (int x = 4; x >= 0; x--) {
            due("remove", takeFromLine(tree, x), x);
            counts(tree, x, 1, 1, 0, 0, 0);
            holds(tree, 0, from(0, x - 1));
            due("audit()", tree.audit(), true);
        }
    }

    private static void rootHoldsTwoElse() {
        sentence("promises 2 and 14", "and holds two or more else");
        AreaTree tree = row(10, 5, 11);
        due("two, less than N", tree.node(0, 1), 2);
        due("audit()", tree.audit(), true);
        // Leaf 1 has 6: with one less all is as it was, with two less the root would hold one.
        takeFromLine(tree, 0);
        counts(tree, 10, 2, 3);
        takeFromLine(tree, 1);
        counts(tree, 9, 1, 1);
        due("node(0, 0)", tree.node(0, 0), 0);
    }

    private static void leavesAreEquallyFar() {
        sentence("promise 14", "All LEAVES are equally far from the root");
        AreaTree[] trees = {row(4, 2, 4), row(4, 2, 5), row(4, 2, 14), twentyPacked(), row(4, 2, 200), full()};
        for (AreaTree tree : trees) {
            for (int k = 0; k < tree.count(2); k++) {
                int above = 0;
                for (int at = k; at > 0; at = tree.node(at, 6)) {
                    above++;
                }
                due("LEVEL of node " + k, tree.node(k, 0), tree.count(1) - 1 - above);
            }
        }
    }

    private static void growsLeast() {
        sentence("promise 2, PUTTING", "into the NODE whose RECTANGLE's AREA would grow least");
        AreaTree nearFirst = twoOnALine();
        point(nearFirst, 50, 5, 0);
        holds(nearFirst, 1, 0, 2, 3, 50);
        AreaTree nearSecond = twoOnALine();
        point(nearSecond, 50, 7, 0);
        holds(nearSecond, 2, 9, 11, 12, 50);
    }

    /** Leaf 2 ends at 11: both grow by 3, and it has one place less than leaf 1. */
    private static void leastArea() {
        sentence("promise 2, PUTTING", "of these one with the least AREA");
        AreaTree tree = new AreaTree(4, 2);
        for (int x : new int[] {0, 1, 2, 3, 9, 10, 11}) {
            point(tree, x, x, 0);
        }
        point(tree, 12, 11, 0);
        tree.pack();
        takeFromLine(tree, 1);
        takeFromLine(tree, 10);
        point(tree, 50, 6, 0);
        holds(tree, 1, 0, 2, 3);
        holds(tree, 2, 9, 11, 12, 50);
    }

    private static void ofTheseTheFirst() {
        sentence("promise 2, PUTTING", "of these the first");
        AreaTree tree = twoOnALine();
        point(tree, 50, 6, 0);
        holds(tree, 1, 0, 2, 3, 50);
        holds(tree, 2, 9, 11, 12);
    }

    private static void comesBehindAll() {
        sentence("promise 2, PUTTING", "There it comes behind all");
        AreaTree tree = line(9, 3, 6);
        holds(tree, 0, 1, 2, 3);
        point(tree, 0, 0, 0);
        holds(tree, 0, 1, 2, 3, 0);
    }

    private static void newNodeRightBehind() {
        sentence("promise 2, PUTTING", "a NODE with M + 1 is SPLIT: it keeps one part, and a new NODE right behind it");
        AreaTree tree = twoOnALine();
        point(tree, 1, 1, 0);
        counts(tree, 7, 2, 3);
        holds(tree, 0, 1, 2);
        // Leaf 1 has 0, 2, 3, 1 and then 4: the seeds are 0 and 4.
        point(tree, 4, 4, 0);
        counts(tree, 8, 2, 4);
        holds(tree, 0, 1, 2, 3);
        holds(tree, 1, 0, 1);
        holds(tree, 2, 4, 3, 2);
        holds(tree, 3, 9, 11, 12);
    }

    private static void newRootWithBoth() {
        sentence("promise 2, PUTTING", "for the root: a new root with both");
        AreaTree leaf = row(4, 2, 5);
        due("node(0, 0)", leaf.node(0, 0), 1);
        holds(leaf, 0, 1, 2);
        holds(leaf, 1, 0, 1, 2);
        holds(leaf, 2, 4, 3);
        AreaTree higher = row(4, 2, 14);
        due("node(0, 0)", higher.node(0, 0), 2);
        holds(higher, 0, 1, 5);
        holds(higher, 1, 2, 3, 4);
        holds(higher, 4, 6, 7, 8);
        holds(higher, 5, 6, 7);
        holds(higher, 6, 13, 12);
        holds(higher, 7, 9, 10, 11);
    }

    private static void firstGreatestPair() {
        sentence("promise 2, PUTTING", "is greatest (the first such pair, by the first one, then the second)");
        AreaTree bySecond = line(0, 10, 10, 5, 5);
        holds(bySecond, 1, 1, 4, 5);
        holds(bySecond, 2, 2, 3);
        AreaTree byFirst = line(10, 10, 0, 5, 5);
        holds(byFirst, 1, 1, 2);
        holds(byFirst, 2, 3, 4, 5);
        AreaTree corners = new AreaTree(4, 2);
        point(corners, 1, 0, 0);
        point(corners, 2, 10, 10);
        point(corners, 3, 0, 10);
        point(corners, 4, 10, 0);
        point(corners, 5, 5, 5);
        holds(corners, 1, 1, 3, 5);
        holds(corners, 2, 2, 4);
        // All pairs are the worse for being apart: the greatest is below 0.
        AreaTree nested = new AreaTree(4, 2);
        for (int id = 1; id <= 5; id++) {
            nested.insert(id, 0, 0, 20 - id, 20 - id);
        }
        holds(nested, 1, 1, 2, 3);
        holds(nested, 2, 5, 4);
    }

    /** Together with 2 the long one, 3, has more places than 1 and 2, but most of them are its own. */
    private static void partsBeginWithSeeds() {
        sentence("promise 2, PUTTING", "The first part begins with the first SEED, the second with the second one");
        AreaTree tree = new AreaTree(4, 2);
        point(tree, 1, 0, 0);
        point(tree, 2, 100, 0);
        tree.insert(3, 5, 0, 120, 0);
        point(tree, 4, 1, 0);
        point(tree, 5, 99, 0);
        holds(tree, 1, 1, 4);
        holds(tree, 2, 2, 5, 3);
    }

    /** The second part takes what lies near to it, till the first would be too small. */
    private static void firstPartNeedsAll() {
        sentence("promise 2, PUTTING", "if one part needs all that are left to have N .. (the first part is asked first)");
        forAllBounds((most, least) -> {
            AreaTree tree = new AreaTree(most, least);
            point(tree, 1, 0, 0);
            for (int id = 2; id <= most + 1; id++) {
                point(tree, id, 102 - id, 0);
            }
            holds(tree, 1, join(from(1, 1), from(most - least + 3, most + 1)));
            holds(tree, 2, from(2, most - least + 2));
        });
    }

    private static void secondPartNeedsAll() {
        sentence("promise 2, PUTTING", "if one part needs all that are left to have N: these come to it, in order");
        forAllBounds((most, least) -> {
            AreaTree tree = row(most, least, most + 1);
            holds(tree, 1, from(0, most - least));
            holds(tree, 2, join(from(most, most), from(most - least + 1, most - 1)));
        });
    }

    private static void differMost() {
        sentence("promise 2, PUTTING", "what the parts' AREAS would grow by it differ most (the first such one)");
        AreaTree most = line(0, 10, 5, 4, 1);
        holds(most, 1, 1, 5, 4);
        holds(most, 2, 2, 3);
        // 1 and 9 differ alike: the first such one is 9, then 1 before 5.
        AreaTree first = line(0, 10, 5, 9, 1);
        holds(first, 1, 1, 5, 3);
        holds(first, 2, 2, 4);
    }

    private static void partThatGrowsLess() {
        sentence("promise 2, PUTTING", "comes to the part that would grow less");
        AreaTree second = line(0, 10, 6, 6, 6);
        holds(second, 1, 1, 5);
        holds(second, 2, 2, 3, 4);
        AreaTree first = line(0, 10, 4, 4, 4);
        holds(first, 1, 1, 3, 4);
        holds(first, 2, 2, 5);
    }

    /** Both would grow by 5: the first has two places, the second one. */
    private static void partOfLessArea() {
        sentence("promise 2, PUTTING", "if alike, to that of less AREA");
        AreaTree tree = new AreaTree(4, 2);
        tree.insert(1, 0, 0, 1, 0);
        point(tree, 2, 11, 0);
        for (int id = 3; id <= 5; id++) {
            point(tree, id, 6, 0);
        }
        holds(tree, 1, 1, 5);
        holds(tree, 2, 2, 3, 4);
    }

    /** 0 comes to the first part at once: both parts have one place then, the second has fewer. */
    private static void partWithFewer() {
        sentence("promise 2, PUTTING", "then to that with fewer");
        AreaTree tree = line(0, 10, 5, 0, 5);
        holds(tree, 1, 1, 4);
        holds(tree, 2, 2, 3, 5);
    }

    private static void thenToTheFirst() {
        sentence("promise 2, PUTTING", "then to the first");
        AreaTree tree = line(0, 10, 5, 5, 5);
        holds(tree, 1, 1, 3, 4);
        holds(tree, 2, 2, 5);
    }

    private static void homelessInOrder() {
        sentence("promise 3, TAKING", "what it has becomes HOMELESS .. in order");
        forAllBounds((most, least) -> {
            AreaTree tree = row(most, least, most + 1);
            int left = most - least + 1;
            for (int x = 0; x <= left - least; x++) {
                takeFromLine(tree, x);
            }
            int[] stayed = join(from(most, most), from(most - least + 1, most - 1));
            holds(tree, 0, join(stayed, from(left - least + 1, left - 1)));
        });
    }

    /** Of leaf 7 one entry and of node 5 one leaf are left: first 19 is put, then the leaf of 12 to 15. */
    private static void homelessOfTheirLevel() {
        sentence("promise 3, TAKING", "behind those that are so already .. Then all that are HOMELESS are PUT, "
            + "in this order, each of its LEVEL");
        AreaTree tree = twentyPacked();
        takeFromLine(tree, 16);
        takeFromLine(tree, 17);
        takeFromLine(tree, 18);
        holds(tree, 0, 1, 4);
        holds(tree, 1, 2, 3);
        holds(tree, 2, 0, 1, 2, 3);
        holds(tree, 3, 4, 5, 6, 7);
        holds(tree, 4, 5, 6, 7);
        holds(tree, 5, 12, 13, 14, 15);
        holds(tree, 6, 19, 11);
        holds(tree, 7, 8, 9, 10);
        due("count(5)", tree.count(5), 2);
    }

    private static void rootGoesAtLast() {
        sentence("promise 3, TAKING", "At last, as long as the root is no LEAF and holds one NODE, this is the root");
        AreaTree leaf = twoLeaves();
        leaf.remove(2, 9, 9, 9, 9);
        counts(leaf, 4, 1, 1, 1, 1, 1);
        holds(leaf, 0, 1, 5, 3, 4);
        due("node(0, 6)", leaf.node(0, 6), NONE);
        // A leaf that holds one entry stays: it is no node that it holds.
        AreaTree one = line(5);
        point(one, 2, 6, 0);
        one.remove(2, 6, 0, 6, 0);
        counts(one, 1, 1, 1);
        holds(one, 0, 1);
        // Node 1 keeps three leaves, node 5 goes with what it had: two nodes, then one, are left above.
        AreaTree higher = twentyPacked();
        for (int x = 0; x < 12; x++) {
            if (x % 4 < 2) {
                takeFromLine(higher, x);
            }
        }
        counts(higher, 14, 3, 8, higher.count(3), 0, 0);
        takeFromLine(higher, 16);
        takeFromLine(higher, 17);
        takeFromLine(higher, 18);
        counts(higher, 11, 2, 5, higher.count(3), 2, 2);
        due("node(0, 6)", higher.node(0, 6), NONE);
        holds(higher, 0, 1, 2, 3, 4);
        holds(higher, 4, 12, 13, 14, 15);
    }

    /** The root holds one leaf, full, till what is homeless splits it. */
    private static void rootStaysWithTwo() {
        sentence("promise 3, TAKING", "At last");
        AreaTree tree = row(4, 2, 5);
        point(tree, 10, 1, 0);
        holds(tree, 1, 0, 1, 2, 10);
        takeFromLine(tree, 4);
        counts(tree, 5, 2, 3, 2, 1, 1);
        holds(tree, 0, 1, 2);
        holds(tree, 1, 0, 1, 10);
        holds(tree, 2, 3, 2);
    }

    private static void numbersFromTheRoot() {
        sentence("promises 14 and 15", "NODES are numbered by going from the root, 0, each before what it holds, in order");
        AreaTree tree = twentyPacked();
        int[] holders = {NONE, 0, 1, 1, 1, 0, 5, 5};
        for (int k = 0; k < 8; k++) {
            due("node(" + k + ", 6)", tree.node(k, 6), holders[k]);
        }
        holds(tree, 0, 1, 5);
        holds(tree, 1, 2, 3, 4);
        holds(tree, 5, 6, 7);
        due("node(7, 0)", tree.node(7, 0), 0);
        due("node(8, 0)", tree.node(8, 0), BAD);
    }

    private static void rootIsReadWhateverItIs() {
        sentence("promises 5 and 10, WINDOW", "the root, too, when the first ENTRY is asked for, whatever its RECTANGLE is");
        AreaTree[] trees = {new AreaTree(4, 2), line(1, 2), twoLeaves(), twentyPacked()};
        for (AreaTree tree : trees) {
            tree.window(500, 500, 600, 600);
            due("visited(0) before", tree.visited(0), 0);
            due("next()", tree.next(), NONE);
            due("visited(0)", tree.visited(0), 1);
            due("next() again", tree.next(), NONE);
            due("visited(0) again", tree.visited(0), 1);
        }
    }

    private static void reads(AreaTree tree, int[] r, int found, int due) {
        String window = " in (" + r[0] + ", " + r[1] + ", " + r[2] + ", " + r[3] + ")";
        tree.window(r[0], r[1], r[2], r[3]);
        int all = 0;
        while (all < 400 && tree.next() >= 0) {
            all++;
        }
        due("found" + window, all, found);
        due("visited(0)" + window, tree.visited(0), due);
    }

    private static void nodesAreReadThatMeet() {
        sentence("promises 5 and 10, WINDOW", "of others all NODES whose RECTANGLES MEET it are read");
        AreaTree tree = twoLeaves();
        reads(tree, new int[] {1, 1, 7, 7}, 1, 2);
        reads(tree, new int[] {2, 2, 8, 8}, 1, 2);
        reads(tree, new int[] {1, 1, 8, 8}, 2, 3);
        reads(tree, new int[] {2, 2, 7, 7}, 0, 1);
        reads(tree, new int[] {2, 0, 7, 1}, 0, 1);
        reads(tree, new int[] {0, 2, 1, 7}, 0, 1);
        reads(tree, new int[] {1, 0, 1, 0}, 0, 2);
        // Node 1 is read for its rectangle, though no leaf in it meets the window.
        AreaTree deep = new AreaTree(4, 2);
        for (int i = 0; i < 20; i++) {
            point(deep, i, i + i / 4 * 10, 0);
        }
        deep.pack();
        reads(deep, new int[] {5, 0, 12, 0}, 0, 2);
        reads(deep, new int[] {3, 0, 13, 0}, 1, 3);
        reads(deep, new int[] {3, 0, 14, 0}, 2, 4);
        reads(deep, new int[] {32, 0, 41, 0}, 0, 1);
        reads(deep, new int[] {31, 0, 42, 0}, 2, 5);
    }

    private static void nodesAreReadWhenNeeded() {
        sentence("promises 5 and 10, WINDOW", "one when it is needed to find the next ENTRY, not before");
        AreaTree tree = twentyPacked();
        tree.window(6, 0, 12, 0);
        int[] found = {6, 7, 8, 9, 10, 11, 12, NONE, NONE};
        int[] read = {3, 3, 4, 4, 4, 4, 6, 6, 6};
        due("visited(0) before", tree.visited(0), 0);
        for (int i = 0; i < found.length; i++) {
            due("next()", tree.next(), found[i]);
            due("visited(0) at " + found[i], tree.visited(0), read[i]);
        }
    }

    private static void distanceWithin() {
        sentence("promises 7 and 8, NEAREST", "0 within it, else the squares of how far it is beside and above it together");
        AreaTree tree = new AreaTree(4, 2);
        tree.insert(1, 10, 30, 20, 40);
        int[][] places = {
            {10, 30, 0}, {20, 30, 0}, {10, 40, 0}, {20, 40, 0}, {15, 35, 0},
            {9, 30, 1}, {9, 40, 1}, {21, 30, 1}, {21, 40, 1}, {10, 29, 1}, {20, 29, 1}, {10, 41, 1}, {20, 41, 1},
            {9, 29, 2}, {21, 29, 2}, {9, 41, 2}, {21, 41, 2}, {7, 26, 25}, {24, 43, 25}, {0, 35, 100}, {15, 0, 900},
        };
        for (int[] place : places) {
            due("nearest", tree.nearest(place[0], place[1], 0), 1);
            due("distance() from " + place[0] + ", " + place[1], tree.distance(), place[2]);
        }
    }

    private static void distanceOfAllPlaces() {
        sentence("promises 7 and 8, NEAREST", "the squares .. together, with no wrap-around");
        int[][] corners = {{0, 0}, {0, LAST}, {LAST, 0}, {LAST, LAST}};
        for (int[] corner : corners) {
            AreaTree tree = new AreaTree(4, 2);
            point(tree, 1, corner[0], corner[1]);
            point(tree, 2, LAST - corner[0], corner[1]);
            due("the nearer", tree.nearest(LAST - corner[0], LAST - corner[1], 0), 2);
            due("its distance()", tree.distance(), 1073676289);
            due("the farther", tree.nearest(LAST - corner[0], LAST - corner[1], 1), 1);
            due("its distance()", tree.distance(), 2147352578);
        }
    }

    /** Leaf 2 is as far as 3 in leaf 1, and need not be read for it. */
    private static void entriesBeforeNodes() {
        sentence("promises 7 and 10, NEAREST", "of these ENTRIES before NODES");
        AreaTree tree = twoLeaves();
        due("nearest(4, 5, 0)", tree.nearest(4, 5, 0), 3);
        due("visited(1)", tree.visited(1), 2);
        due("nearest(4, 5, 1)", tree.nearest(4, 5, 1), 4);
        due("visited(1)", tree.visited(1), 3);
        // One place farther off leaf 1 is not the nearest any more, one nearer leaf 2 is not.
        due("nearest(5, 5, 0)", tree.nearest(5, 5, 0), 4);
        due("visited(1)", tree.visited(1), 2);
        due("nearest(4, 4, 0)", tree.nearest(4, 4, 0), 3);
        due("visited(1)", tree.visited(1), 2);
    }

    /** Where ids and distances are alike, nearest() answers alike, so that no call shows the turn of x1 to y2. */
    private static void entriesByIds() {
        sentence("promise 7, NEAREST", "ENTRIES by ids");
        AreaTree tree = new AreaTree(10, 2);
        int[] ids = {7, 999, 3, 0, 8, 2};
        for (int i = 0; i < ids.length; i++) {
            tree.insert(ids[i], 10 - i, 10, 10 + i, 10);
        }
        int[] due = {0, 2, 3, 7, 8, 999};
        for (int k = 0; k < due.length; k++) {
            due("nearest(10, 10, " + k + ")", tree.nearest(10, 10, k), due[k]);
        }
        // Only those in the row are asked: leaf 2 has a lesser id, but is read behind the entries of leaf 1.
        AreaTree leaves = line(5, 5, 5, 5, 5);
        leaves.remove(1, 5, 0, 5, 0);
        holds(leaves, 1, 3, 5);
        holds(leaves, 2, 2, 4);
        int[] row = {3, 5, 2, 4};
        for (int k = 0; k < row.length; k++) {
            due("nearest(5, 0, " + k + ")", leaves.nearest(5, 0, k), row[k]);
        }
    }

    private static void nodesByNumbers() {
        sentence("promises 7 and 10, NEAREST", "NODES by their numbers");
        // The place lies in the middle between leaf 1 and leaf 2; the ids would have it otherwise.
        AreaTree even = new AreaTree(4, 2);
        for (int i = 0; i < 8; i++) {
            point(even, 9 - i, i < 4 ? i : i + 1, 0);
        }
        even.pack();
        due("nearest(4, 0, 0)", even.nearest(4, 0, 0), 6);
        due("visited(1)", even.visited(1), 2);
        due("nearest(4, 0, 1)", even.nearest(4, 0, 1), 5);
        due("visited(1)", even.visited(1), 3);
    }
}
