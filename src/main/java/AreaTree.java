/** A tree of areas. What each call promises stands in the project's document, ../shared/DOC.md. */
public final class AreaTree {
    public static final int BAD = -1, NONE = -2;

    private static final int TOO_MANY = -3;
    private static final int LAST_PLACE = 32767;
    private static final int LAST_ID = 999;

    private static final int MOST_ENTRIES = 400;
    /** Every node but the root holds two or more, so there are never more nodes than entries. */
    private static final int MOST_NODES = MOST_ENTRIES + 4;
    /** With two or more in each node, 400 entries reach nine levels at most; this only guards loops. */
    private static final int MOST_LEVELS = 40;
    /** A removal dissolves at most one node a level, and none of these has more than four left. */
    private static final int MOST_HOMELESS = 4 * MOST_LEVELS;

    private static final int FIRST_NODE = MOST_ENTRIES;
    /** Rectangles that callers give have slots too, so that they are compared like all others. */
    private static final int WINDOW = FIRST_NODE + MOST_NODES;
    private static final int ASKED = WINDOW + 1;
    /** Stands in where no slot is to be had, so that every slot is an index whatever happens. */
    private static final int NOWHERE = ASKED + 1;
    private static final int SLOTS = NOWHERE + 1;

    private static final int NO = -1;
    private static final int ENTRY_LEVEL = -1;
    private static final int SPARE_LEVEL = -2;

    private final Store store;
    private final Tree tree;
    private final Packer packer;
    private final Walk walk;
    private final Search search;
    private final Auditor auditor;

    public AreaTree(int most, int least) {
        int bounded = Math.max(4, Math.min(10, most));
        store = new Store(bounded, Math.max(2, Math.min(bounded / 2, least)));
        tree = new Tree(store);
        packer = new Packer(store, tree);
        walk = new Walk(store, tree);
        search = new Search(store, tree);
        auditor = new Auditor(store, tree);
    }

    public int insert(int id, int x1, int y1, int x2, int y2) {
        if (!isId(id) || !isRectangle(x1, y1, x2, y2)) {
            return BAD;
        }
        store.describe(ASKED, id, x1, y1, x2, y2);
        if (store.entryLike(ASKED) != NO) {
            return NONE;
        }
        if (store.entries >= MOST_ENTRIES) {
            return TOO_MANY;
        }
        walk.shut();
        tree.put(store.newEntry(ASKED));
        tree.renumber();
        return store.entries;
    }

    public int remove(int id, int x1, int y1, int x2, int y2) {
        if (!isId(id) || !isRectangle(x1, y1, x2, y2)) {
            return BAD;
        }
        store.describe(ASKED, id, x1, y1, x2, y2);
        int entry = store.entryLike(ASKED);
        if (entry == NO) {
            return NONE;
        }
        walk.shut();
        tree.take(entry);
        tree.renumber();
        return store.entries;
    }

    public int window(int x1, int y1, int x2, int y2) {
        if (!isRectangle(x1, y1, x2, y2)) {
            return BAD;
        }
        store.describe(WINDOW, NO, x1, y1, x2, y2);
        walk.open();
        return 0;
    }

    public int next() {
        if (!walk.isOpen) {
            return BAD;
        }
        int entry = walk.goOn();
        return entry == NO ? NONE : store.name[entry];
    }

    public int countIn(int x1, int y1, int x2, int y2) {
        if (!isRectangle(x1, y1, x2, y2)) {
            return BAD;
        }
        store.describe(ASKED, NO, x1, y1, x2, y2);
        return store.entriesMeeting(ASKED, 0);
    }

    public int nearest(int x, int y, int k) {
        if (!isPlace(x) || !isPlace(y) || k < 0 || k >= store.entries) {
            return BAD;
        }
        int entry = search.find(x, y, k);
        return entry == NO ? BAD : store.name[entry];
    }

    public int distance() {
        return search.toldDistance;
    }

    public int pairs() {
        int met = 0;
        for (int entry = 0; entry < store.entryTop; entry++) {
            if (store.isEntry(entry)) {
                met += store.entriesMeeting(entry, entry + 1);
            }
        }
        return met;
    }

    public int visited(int what) {
        switch (what) {
            case 0:
                return walk.isOpen ? walk.nodesRead : BAD;
            case 1:
                return search.nodesRead;
            case 2:
                return tree.meetingNodes();
            default:
                return BAD;
        }
    }

    public int pack() {
        walk.shut();
        packer.buildAnew();
        tree.renumber();
        return tree.nodes;
    }

    public int clear() {
        int before = store.entries;
        walk.shut();
        store.forgetEntries();
        tree.startEmpty();
        return before;
    }

    public int count(int what) {
        switch (what) {
            case 0:
                return store.entries;
            case 1:
                return store.level[tree.root] + 1;
            case 2:
                return tree.nodes;
            case 3:
                return tree.splits;
            case 4:
                return tree.dissolved;
            case 5:
                return tree.madeHomeless;
            case 6:
                return store.most;
            case 7:
                return store.least;
            default:
                return BAD;
        }
    }

    public int node(int k, int what) {
        if (k < 0 || k >= tree.nodes) {
            return BAD;
        }
        int slot = tree.order[k];
        switch (what) {
            case 0:
                return store.level[slot];
            case 1:
                return store.size[slot];
            case 2:
            case 3:
            case 4:
            case 5:
                return store.size[slot] == 0 ? BAD : store.side(slot, what - 2);
            case 6:
                return store.holder[slot] == NO ? NONE : store.name[store.holder[slot]];
            default:
                return BAD;
        }
    }

    public int held(int k, int i, int what) {
        if (k < 0 || k >= tree.nodes || i < 0 || i >= store.size[tree.order[k]]) {
            return BAD;
        }
        int slot = store.thingAt(tree.order[k], i);
        return what == 0 ? store.name[slot] : store.side(slot, what - 1);
    }

    public boolean audit() {
        return auditor.findsAllWell();
    }

    private static boolean isId(int id) {
        return id >= 0 && id <= LAST_ID;
    }

    private static boolean isPlace(int place) {
        return place >= 0 && place <= LAST_PLACE;
    }

    private static boolean isRectangle(int x1, int y1, int x2, int y2) {
        return isPlace(x1) && isPlace(y1) && isPlace(x2) && isPlace(y2) && x1 <= x2 && y1 <= y2;
    }

    /**
     * Entries and nodes lie in slots of the same rows, entries below FIRST_NODE, so that a node
     * can hold either and both are chosen, split and measured by the same lines.
     */
    private static final class Store {
        final int most;
        final int least;
        final int[] level = new int[SLOTS];
        final int[] x1 = new int[SLOTS];
        final int[] y1 = new int[SLOTS];
        final int[] x2 = new int[SLOTS];
        final int[] y2 = new int[SLOTS];
        /** An entry's id, or a node's number. */
        final int[] name = new int[SLOTS];
        /** The node that holds it; of a spare slot the next spare one. */
        final int[] holder = new int[SLOTS];
        final int[] size = new int[SLOTS];
        /** A node has one place more than it may keep, for what makes it split. */
        final int width;
        final int[] rows;
        int entries;
        int entryTop;
        int spareEntry;
        int nodeTop;
        int spareNode;

        Store(int most, int least) {
            this.most = most;
            this.least = least;
            width = most + 1;
            rows = new int[MOST_NODES * width];
            forgetEntries();
            forgetNodes();
        }

        void forgetEntries() {
            entries = 0;
            entryTop = 0;
            spareEntry = NO;
        }

        void forgetNodes() {
            nodeTop = FIRST_NODE;
            spareNode = NO;
        }

        int newEntry(int like) {
            int slot = spareEntry;
            if (slot != NO) {
                spareEntry = holder[slot];
            } else if (entryTop < MOST_ENTRIES) {
                slot = entryTop++;
            } else {
                return NOWHERE;
            }
            entries++;
            level[slot] = ENTRY_LEVEL;
            name[slot] = name[like];
            copyRectangle(like, slot);
            return slot;
        }

        void freeEntry(int slot) {
            entries--;
            level[slot] = SPARE_LEVEL;
            holder[slot] = spareEntry;
            spareEntry = slot;
        }

        int newNode(int itsLevel) {
            int slot = spareNode;
            if (slot != NO) {
                spareNode = holder[slot];
            } else if (nodeTop < FIRST_NODE + MOST_NODES) {
                slot = nodeTop++;
            } else {
                return NOWHERE;
            }
            level[slot] = itsLevel;
            size[slot] = 0;
            holder[slot] = NO;
            return slot;
        }

        void freeNode(int slot) {
            level[slot] = SPARE_LEVEL;
            holder[slot] = spareNode;
            spareNode = slot;
        }

        boolean isEntry(int slot) {
            return level[slot] == ENTRY_LEVEL;
        }

        void describe(int slot, int itsName, int left, int low, int right, int high) {
            name[slot] = itsName;
            x1[slot] = left;
            y1[slot] = low;
            x2[slot] = right;
            y2[slot] = high;
        }

        int side(int slot, int which) {
            switch (which) {
                case 0:
                    return x1[slot];
                case 1:
                    return y1[slot];
                case 2:
                    return x2[slot];
                case 3:
                    return y2[slot];
                default:
                    return BAD;
            }
        }

        /** At most 2^30, so that neither it nor a difference of areas leaves an int. */
        int area(int slot) {
            return (x2[slot] - x1[slot] + 1) * (y2[slot] - y1[slot] + 1);
        }

        int growth(int slot, int by) {
            int wide = Math.max(x2[slot], x2[by]) - Math.min(x1[slot], x1[by]) + 1;
            int tall = Math.max(y2[slot], y2[by]) - Math.min(y1[slot], y1[by]) + 1;
            return wide * tall - area(slot);
        }

        boolean meet(int a, int b) {
            return x1[a] <= x2[b] && x1[b] <= x2[a] && y1[a] <= y2[b] && y1[b] <= y2[a];
        }

        boolean sameRectangle(int a, int b) {
            return x1[a] == x1[b] && y1[a] == y1[b] && x2[a] == x2[b] && y2[a] == y2[b];
        }

        boolean alike(int a, int b) {
            return name[a] == name[b] && sameRectangle(a, b);
        }

        void copyRectangle(int from, int to) {
            x1[to] = x1[from];
            y1[to] = y1[from];
            x2[to] = x2[from];
            y2[to] = y2[from];
        }

        void cover(int slot, int other) {
            x1[slot] = Math.min(x1[slot], x1[other]);
            y1[slot] = Math.min(y1[slot], y1[other]);
            x2[slot] = Math.max(x2[slot], x2[other]);
            y2[slot] = Math.max(y2[slot], y2[other]);
        }

        /** Below 2^31 even from corner to corner. */
        int squareTo(int slot, int x, int y) {
            int beside = Math.max(0, Math.max(x1[slot] - x, x - x2[slot]));
            int above = Math.max(0, Math.max(y1[slot] - y, y - y2[slot]));
            return beside * beside + above * above;
        }

        int compareNames(int a, int b) {
            if (name[a] != name[b]) {
                return Integer.compare(name[a], name[b]);
            }
            if (x1[a] != x1[b]) {
                return Integer.compare(x1[a], x1[b]);
            }
            if (y1[a] != y1[b]) {
                return Integer.compare(y1[a], y1[b]);
            }
            if (x2[a] != x2[b]) {
                return Integer.compare(x2[a], x2[b]);
            }
            return Integer.compare(y2[a], y2[b]);
        }

        int entryLike(int slot) {
            for (int entry = 0; entry < entryTop; entry++) {
                if (isEntry(entry) && alike(entry, slot)) {
                    return entry;
                }
            }
            return NO;
        }

        int entriesMeeting(int slot, int from) {
            int met = 0;
            for (int entry = from; entry < entryTop; entry++) {
                if (isEntry(entry) && meet(entry, slot)) {
                    met++;
                }
            }
            return met;
        }

        int thingAt(int holding, int i) {
            int at = (holding - FIRST_NODE) * width + i;
            return at >= 0 && at < rows.length ? rows[at] : NOWHERE;
        }

        private void placeAt(int holding, int i, int thing) {
            int at = (holding - FIRST_NODE) * width + i;
            if (at >= 0 && at < rows.length) {
                rows[at] = thing;
            }
        }

        private int indexIn(int holding, int thing) {
            int i = 0;
            while (i < size[holding] && thingAt(holding, i) != thing) {
                i++;
            }
            return i;
        }

        void attach(int holding, int thing) {
            if (size[holding] == 0) {
                copyRectangle(thing, holding);
            } else {
                cover(holding, thing);
            }
            attachAt(holding, size[holding], thing);
        }

        void attachBehind(int sibling, int thing) {
            int holding = holder[sibling];
            if (holding != NO) {
                attachAt(holding, indexIn(holding, sibling) + 1, thing);
            }
        }

        private void attachAt(int holding, int index, int thing) {
            for (int i = size[holding]; i > index; i--) {
                placeAt(holding, i, thingAt(holding, i - 1));
            }
            placeAt(holding, index, thing);
            size[holding]++;
            holder[thing] = holding;
        }

        /** Leaves the holder's rectangle as it is, since the holder may go next and need none. */
        void detach(int thing) {
            int holding = holder[thing];
            if (holding == NO || size[holding] == 0) {
                return;
            }
            for (int i = indexIn(holding, thing) + 1; i < size[holding]; i++) {
                placeAt(holding, i - 1, thingAt(holding, i));
            }
            size[holding]--;
        }

        /** Makes a rectangle the least one around what a node holds; an empty node has none. */
        void fitAround(int slot, int holding) {
            for (int i = 0; i < size[holding]; i++) {
                if (i == 0) {
                    copyRectangle(thingAt(holding, 0), slot);
                } else {
                    cover(slot, thingAt(holding, i));
                }
            }
        }
    }

    /** The nodes from the root down, and how they grow and thin. */
    private static final class Tree {
        private final Store store;
        private final Splitter splitter;
        private final int[] homeless = new int[MOST_HOMELESS];
        private int waiting;
        /** The nodes' slots by their numbers. */
        final int[] order = new int[MOST_NODES];
        int nodes;
        int root;
        int splits;
        int dissolved;
        int madeHomeless;

        Tree(Store store) {
            this.store = store;
            splitter = new Splitter(store);
            startEmpty();
        }

        void startEmpty() {
            store.forgetNodes();
            root = store.newNode(0);
            renumber();
        }

        void renumber() {
            nodes = 0;
            numberFrom(root, 0);
        }

        private void numberFrom(int slot, int depth) {
            if (depth >= MOST_LEVELS || nodes >= order.length) {
                return;
            }
            store.name[slot] = nodes;
            order[nodes++] = slot;
            if (store.level[slot] == 0) {
                return;
            }
            for (int i = 0; i < store.size[slot]; i++) {
                numberFrom(store.thingAt(slot, i), depth + 1);
            }
        }

        void put(int thing) {
            int at = root;
            for (int depth = 0; depth < MOST_LEVELS && store.level[at] > store.level[thing] + 1; depth++) {
                store.cover(at, thing);
                at = leastGrowing(at, thing);
            }
            store.attach(at, thing);
            splitUpwards(at);
        }

        private int leastGrowing(int holding, int thing) {
            int best = store.thingAt(holding, 0);
            for (int i = 1; i < store.size[holding]; i++) {
                int other = store.thingAt(holding, i);
                int more = Integer.compare(store.growth(other, thing), store.growth(best, thing));
                if (more < 0 || (more == 0 && store.area(other) < store.area(best))) {
                    best = other;
                }
            }
            return best;
        }

        private void splitUpwards(int from) {
            int at = from;
            for (int depth = 0; depth < MOST_LEVELS && at != NO && store.size[at] > store.most; depth++) {
                int fresh = store.newNode(store.level[at]);
                splits++;
                splitter.share(at, fresh);
                if (at == root) {
                    raiseRoot(fresh);
                } else {
                    store.attachBehind(at, fresh);
                }
                at = store.holder[at];
            }
        }

        private void raiseRoot(int sibling) {
            int above = store.newNode(store.level[root] + 1);
            store.attach(above, root);
            store.attach(above, sibling);
            root = above;
        }

        void take(int entry) {
            int leaf = store.holder[entry];
            store.detach(entry);
            store.freeEntry(entry);
            waiting = 0;
            thinUpwards(leaf);
            for (int i = 0; i < waiting; i++) {
                put(homeless[i]);
            }
            lowerRoot();
        }

        private void thinUpwards(int leaf) {
            int at = leaf;
            for (int depth = 0; depth < MOST_LEVELS && at != NO; depth++) {
                int above = store.holder[at];
                if (above != NO && store.size[at] < store.least) {
                    dissolve(at);
                } else {
                    store.fitAround(at, at);
                }
                at = above;
            }
        }

        private void dissolve(int slot) {
            store.detach(slot);
            for (int i = 0; i < store.size[slot] && waiting < homeless.length; i++) {
                homeless[waiting++] = store.thingAt(slot, i);
                madeHomeless++;
            }
            store.freeNode(slot);
            dissolved++;
        }

        private void lowerRoot() {
            for (int depth = 0; depth < MOST_LEVELS && store.level[root] > 0 && store.size[root] == 1; depth++) {
                int below = store.thingAt(root, 0);
                store.freeNode(root);
                store.holder[below] = NO;
                root = below;
            }
        }

        /** Nodes that meet lie in nodes that meet, so the pair that holds them need not be asked. */
        int meetingNodes() {
            int met = nodes;
            for (int k = 0; k < nodes; k++) {
                for (int other = k + 1; other < nodes; other++) {
                    if (store.level[order[k]] == store.level[order[other]] && store.meet(order[k], order[other])) {
                        met++;
                    }
                }
            }
            return met;
        }
    }

    /** Shares what one node too full holds between it and a new one. */
    private static final class Splitter {
        private final Store store;
        private final int[] left;
        private int leftCount;
        private int firstSeed;
        private int secondSeed;

        Splitter(Store store) {
            this.store = store;
            left = new int[store.width];
        }

        void share(int first, int second) {
            pourOut(first);
            findSeeds();
            // The later one goes first, so that the earlier one's index still holds.
            int later = takeLeft(secondSeed);
            store.attach(first, takeLeft(firstSeed));
            store.attach(second, later);
            for (int turn = 0; turn < left.length && leftCount > 0; turn++) {
                // A part that needs all that are left still does so when it has one of them.
                if (needsAll(first)) {
                    store.attach(first, takeLeft(0));
                } else if (needsAll(second)) {
                    store.attach(second, takeLeft(0));
                } else {
                    int thing = takeLeft(mostDecided(first, second));
                    store.attach(fitting(thing, first, second), thing);
                }
            }
        }

        private void pourOut(int slot) {
            leftCount = Math.min(store.size[slot], left.length);
            for (int i = 0; i < leftCount; i++) {
                left[i] = store.thingAt(slot, i);
            }
            store.size[slot] = 0;
        }

        private void findSeeds() {
            int greatest = Integer.MIN_VALUE;
            for (int i = 0; i < leftCount; i++) {
                for (int j = i + 1; j < leftCount; j++) {
                    int waste = store.growth(left[i], left[j]) - store.area(left[j]);
                    if (waste > greatest) {
                        greatest = waste;
                        firstSeed = i;
                        secondSeed = j;
                    }
                }
            }
        }

        private int takeLeft(int index) {
            if (index < 0 || index >= leftCount) {
                return NOWHERE;
            }
            int thing = left[index];
            leftCount--;
            for (int i = index; i < leftCount; i++) {
                left[i] = left[i + 1];
            }
            return thing;
        }

        private boolean needsAll(int part) {
            return store.size[part] + leftCount <= store.least;
        }

        private int mostDecided(int first, int second) {
            int best = 0;
            int bestDifference = -1;
            for (int i = 0; i < leftCount; i++) {
                int difference = Math.abs(store.growth(first, left[i]) - store.growth(second, left[i]));
                if (difference > bestDifference) {
                    best = i;
                    bestDifference = difference;
                }
            }
            return best;
        }

        private int fitting(int thing, int first, int second) {
            int order = Integer.compare(store.growth(first, thing), store.growth(second, thing));
            if (order == 0) {
                order = Integer.compare(store.area(first), store.area(second));
            }
            if (order == 0) {
                order = Integer.compare(store.size[first], store.size[second]);
            }
            return order <= 0 ? first : second;
        }
    }

    /** Builds all nodes anew around the entries that there are. */
    private static final class Packer {
        /** Each a third of the one before, as a Shell sort wants them. */
        private static final int[] GAPS = {121, 40, 13, 4, 1};

        private final Store store;
        private final Tree tree;
        private final int[] line = new int[MOST_ENTRIES];
        private int length;

        Packer(Store store, Tree tree) {
            this.store = store;
            this.tree = tree;
        }

        void buildAnew() {
            gather();
            if (length == 0) {
                tree.startEmpty();
                return;
            }
            sortSlices();
            store.forgetNodes();
            for (int level = 0; level == 0 || (length > 1 && level < MOST_LEVELS); level++) {
                groupInto(level);
            }
            tree.root = line[0];
        }

        private void gather() {
            length = 0;
            for (int entry = 0; entry < store.entryTop; entry++) {
                if (store.isEntry(entry)) {
                    line[length++] = entry;
                }
            }
        }

        private void sortSlices() {
            sort(0, length, false);
            int leaves = groupsOf(length);
            int slices = 1;
            while (slices * slices < leaves) {
                slices++;
            }
            int each = slices * store.most;
            for (int i = 0; i < slices; i++) {
                sort(i * each, Math.min(length, (i + 1) * each), true);
            }
        }

        private int groupsOf(int things) {
            return (things + store.most - 1) / store.most;
        }

        private void sort(int from, int to, boolean upwards) {
            for (int gap : GAPS) {
                for (int i = from + gap; i < to; i++) {
                    int moved = line[i];
                    int at = i;
                    while (at - gap >= from && compare(moved, line[at - gap], upwards) < 0) {
                        line[at] = line[at - gap];
                        at -= gap;
                    }
                    line[at] = moved;
                }
            }
        }

        private int compare(int a, int b, boolean upwards) {
            int across = Integer.compare(store.x1[a] + store.x2[a], store.x1[b] + store.x2[b]);
            int along = Integer.compare(store.y1[a] + store.y2[a], store.y1[b] + store.y2[b]);
            int first = upwards ? along : across;
            int second = upwards ? across : along;
            if (first != 0) {
                return first;
            }
            return second != 0 ? second : store.compareNames(a, b);
        }

        /** The line then has the new nodes: each stands at or before the first that it holds. */
        private void groupInto(int level) {
            int groups = groupsOf(length);
            for (int group = 0; group < groups; group++) {
                int slot = store.newNode(level);
                int end = startOf(group + 1, groups);
                for (int i = startOf(group, groups); i < end; i++) {
                    store.attach(slot, line[i]);
                }
                line[group] = slot;
            }
            length = groups;
        }

        private int startOf(int group, int groups) {
            if (group == groups) {
                return length;
            }
            int start = group * store.most;
            boolean isFilled = group > 0 && group == groups - 1;
            return isFilled ? Math.min(start, length - store.least) : start;
        }
    }

    /** The way of a window through the nodes, in the order of their numbers. */
    private static final class Walk {
        private final Store store;
        private final Tree tree;
        boolean isOpen;
        int nodesRead;
        private int number;
        private int leaf;
        private int index;

        Walk(Store store, Tree tree) {
            this.store = store;
            this.tree = tree;
        }

        void shut() {
            isOpen = false;
        }

        void open() {
            isOpen = true;
            nodesRead = 0;
            number = 0;
            leaf = NO;
        }

        int goOn() {
            int entry = nextInLeaf();
            while (entry == NO && number < tree.nodes) {
                lookAt(tree.order[number]);
                number++;
                entry = nextInLeaf();
            }
            return entry;
        }

        /** What lies in a node that does not meet the window does not meet it either, so it is passed, too. */
        private void lookAt(int slot) {
            if (slot != tree.root && !store.meet(slot, WINDOW)) {
                return;
            }
            nodesRead++;
            if (store.level[slot] == 0) {
                leaf = slot;
                index = 0;
            }
        }

        private int nextInLeaf() {
            if (leaf == NO) {
                return NO;
            }
            while (index < store.size[leaf]) {
                int entry = store.thingAt(leaf, index);
                index++;
                if (store.meet(entry, WINDOW)) {
                    return entry;
                }
            }
            leaf = NO;
            return NO;
        }
    }

    /** Finds the nearest entries; its row is a heap, since no two in it are alike. */
    private static final class Search {
        private final Store store;
        private final Tree tree;
        private final int[] heap = new int[SLOTS];
        private final int[] square = new int[SLOTS];
        private int length;
        int nodesRead;
        int toldDistance = BAD;

        Search(Store store, Tree tree) {
            this.store = store;
            this.tree = tree;
        }

        int find(int x, int y, int k) {
            nodesRead = 0;
            length = 0;
            push(tree.root, x, y);
            int found = 0;
            for (int turn = 0; turn < SLOTS && length > 0; turn++) {
                int slot = pop();
                if (!store.isEntry(slot)) {
                    read(slot, x, y);
                } else if (found < k) {
                    found++;
                } else {
                    toldDistance = square[slot];
                    return slot;
                }
            }
            return NO;
        }

        private void read(int slot, int x, int y) {
            nodesRead++;
            for (int i = 0; i < store.size[slot]; i++) {
                push(store.thingAt(slot, i), x, y);
            }
        }

        private void push(int slot, int x, int y) {
            if (length >= heap.length) {
                return;
            }
            square[slot] = store.squareTo(slot, x, y);
            int at = length++;
            while (at > 0 && isBefore(slot, heap[(at - 1) / 2])) {
                heap[at] = heap[(at - 1) / 2];
                at = (at - 1) / 2;
            }
            heap[at] = slot;
        }

        private int pop() {
            int top = heap[0];
            length--;
            int sunk = heap[length];
            int at = 0;
            int below = lesserBelow(at);
            while (below < length && isBefore(heap[below], sunk)) {
                heap[at] = heap[below];
                at = below;
                below = lesserBelow(at);
            }
            heap[at] = sunk;
            return top;
        }

        private int lesserBelow(int at) {
            int below = 2 * at + 1;
            if (below + 1 < length && isBefore(heap[below + 1], heap[below])) {
                return below + 1;
            }
            return below;
        }

        private boolean isBefore(int a, int b) {
            if (square[a] != square[b]) {
                return square[a] < square[b];
            }
            if (store.isEntry(a) != store.isEntry(b)) {
                return store.isEntry(a);
            }
            return store.compareNames(a, b) < 0;
        }
    }

    /** Looks at every node afresh, trusting nothing that was kept while the tree changed. */
    private static final class Auditor {
        private final Store store;
        private final Tree tree;

        Auditor(Store store, Tree tree) {
            this.store = store;
            this.tree = tree;
        }

        boolean findsAllWell() {
            int inLeaves = 0;
            for (int k = 0; k < tree.nodes; k++) {
                int slot = tree.order[k];
                if (!holdsEnough(slot) || !holdsRightly(slot) || !isTight(slot)) {
                    return false;
                }
                if (store.level[slot] == 0) {
                    inLeaves += store.size[slot];
                }
            }
            return inLeaves == store.entries && noneIsTwice();
        }

        private boolean holdsEnough(int slot) {
            int fewest = store.least;
            if (slot == tree.root) {
                fewest = store.level[slot] == 0 ? 0 : 2;
            }
            return store.size[slot] >= fewest && store.size[slot] <= store.most;
        }

        private boolean holdsRightly(int slot) {
            for (int i = 0; i < store.size[slot]; i++) {
                int thing = store.thingAt(slot, i);
                if (store.level[thing] != store.level[slot] - 1 || store.holder[thing] != slot) {
                    return false;
                }
            }
            return true;
        }

        private boolean isTight(int slot) {
            store.fitAround(ASKED, slot);
            return store.size[slot] == 0 || store.sameRectangle(ASKED, slot);
        }

        private boolean noneIsTwice() {
            for (int entry = 0; entry < store.entryTop; entry++) {
                for (int other = entry + 1; other < store.entryTop; other++) {
                    if (store.isEntry(entry) && store.isEntry(other) && store.alike(entry, other)) {
                        return false;
                    }
                }
            }
            return true;
        }
    }
}
