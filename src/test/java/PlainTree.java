import java.util.ArrayList;
import java.util.Comparator;
import java.util.List;

/**
 * The document's rules once more, written apart from the program and as near to the words as can
 * be, with no thought of speed: what ModelTest holds the program against.
 */
final class PlainTree {
    private static final int BAD = -1, NONE = -2;

    private static class Thing {
        int x1, y1, x2, y2;

        long area() {
            return (long) (x2 - x1 + 1) * (y2 - y1 + 1);
        }

        boolean meets(Thing other) {
            return Math.max(x1, other.x1) <= Math.min(x2, other.x2)
                && Math.max(y1, other.y1) <= Math.min(y2, other.y2);
        }

        long square(int x, int y) {
            long beside = x < x1 ? x1 - x : x > x2 ? x - x2 : 0;
            long above = y < y1 ? y1 - y : y > y2 ? y - y2 : 0;
            return beside * beside + above * above;
        }

        int level() {
            return -1;
        }
    }

    private static final class Entry extends Thing {
        int id;

        boolean isLike(int otherId, Thing other) {
            return id == otherId && x1 == other.x1 && y1 == other.y1 && x2 == other.x2 && y2 == other.y2;
        }
    }

    private static final class Node extends Thing {
        final int level;
        final List<Thing> held = new ArrayList<>();

        Node(int level) {
            this.level = level;
        }

        @Override
        int level() {
            return level;
        }
    }

    private static final Comparator<Entry> BY_ID = Comparator.comparingInt((Entry e) -> e.id)
        .thenComparingInt(e -> e.x1).thenComparingInt(e -> e.y1)
        .thenComparingInt(e -> e.x2).thenComparingInt(e -> e.y2);
    private static final Comparator<Entry> ACROSS = Comparator.comparingInt((Entry e) -> e.x1 + e.x2)
        .thenComparingInt(e -> e.y1 + e.y2).thenComparing(BY_ID);
    private static final Comparator<Entry> ALONG = Comparator.comparingInt((Entry e) -> e.y1 + e.y2)
        .thenComparing(ACROSS);

    private final int most, least;
    private Node root = new Node(0);
    private int splits, gone, homelessEver;
    private Thing window;
    private final List<Object> stack = new ArrayList<>();
    private int windowVisited, nearVisited;
    private long told = BAD;

    PlainTree(int most, int least) {
        this.most = most < 4 ? 4 : most > 10 ? 10 : most;
        this.least = least < 2 ? 2 : least > this.most / 2 ? this.most / 2 : least;
    }

    private static Thing around(List<? extends Thing> things) {
        Thing box = new Thing();
        box.x1 = things.stream().mapToInt(t -> t.x1).min().orElse(0);
        box.y1 = things.stream().mapToInt(t -> t.y1).min().orElse(0);
        box.x2 = things.stream().mapToInt(t -> t.x2).max().orElse(0);
        box.y2 = things.stream().mapToInt(t -> t.y2).max().orElse(0);
        return box;
    }

    private static void refit(Node node) {
        for (Thing thing : node.held) {
            if (thing instanceof Node below) {
                refit(below);
            }
        }
        Thing box = around(node.held);
        node.x1 = box.x1;
        node.y1 = box.y1;
        node.x2 = box.x2;
        node.y2 = box.y2;
    }

    private static long together(Thing a, Thing b) {
        return around(List.of(a, b)).area();
    }

    private static long together(List<Thing> part, Thing thing) {
        return together(around(part), thing);
    }

    private static Thing rectangle(int x1, int y1, int x2, int y2) {
        for (int place : new int[] {x1, y1, x2, y2}) {
            if (place < 0 || place > 32767) {
                return null;
            }
        }
        if (x1 > x2 || y1 > y2) {
            return null;
        }
        Thing box = new Thing();
        box.x1 = x1;
        box.y1 = y1;
        box.x2 = x2;
        box.y2 = y2;
        return box;
    }

    private List<Node> nodes() {
        List<Node> all = new ArrayList<>();
        collect(root, all);
        return all;
    }

    private static void collect(Node node, List<Node> all) {
        all.add(node);
        for (Thing thing : node.held) {
            if (thing instanceof Node below) {
                collect(below, all);
            }
        }
    }

    private List<Entry> entries() {
        List<Entry> all = new ArrayList<>();
        for (Node node : nodes()) {
            for (Thing thing : node.held) {
                if (thing instanceof Entry entry) {
                    all.add(entry);
                }
            }
        }
        return all;
    }

    private Entry alike(int id, Thing box) {
        return entries().stream().filter(e -> e.isLike(id, box)).findFirst().orElse(null);
    }

    private Node holderOf(Thing thing) {
        return nodes().stream().filter(n -> n.held.stream().anyMatch(h -> h == thing)).findFirst().orElse(null);
    }

    int insert(int id, int x1, int y1, int x2, int y2) {
        Thing box = rectangle(x1, y1, x2, y2);
        if (id < 0 || id > 999 || box == null) {
            return BAD;
        }
        if (alike(id, box) != null) {
            return NONE;
        }
        if (entries().size() == 400) {
            return -3;
        }
        Entry entry = new Entry();
        entry.id = id;
        entry.x1 = x1;
        entry.y1 = y1;
        entry.x2 = x2;
        entry.y2 = y2;
        put(entry);
        window = null;
        return entries().size();
    }

    private void put(Thing thing) {
        Node at = root;
        while (at.level > thing.level() + 1) {
            Node best = null;
            for (Thing held : at.held) {
                Node choice = (Node) held;
                if (best == null) {
                    best = choice;
                    continue;
                }
                long grows = together(choice, thing) - choice.area();
                long bestGrows = together(best, thing) - best.area();
                if (grows < bestGrows || grows == bestGrows && choice.area() < best.area()) {
                    best = choice;
                }
            }
            at = best;
        }
        at.held.add(thing);
        while (at != null && at.held.size() == most + 1) {
            Node above = at == root ? null : holderOf(at);
            Node fresh = split(at);
            refit(at);
            refit(fresh);
            if (above == null) {
                root = new Node(at.level + 1);
                root.held.add(at);
                root.held.add(fresh);
            } else {
                above.held.add(above.held.indexOf(at) + 1, fresh);
            }
            at = above;
        }
        refit(root);
    }

    private Node split(Node node) {
        splits++;
        List<Thing> left = new ArrayList<>(node.held);
        Thing first = null, second = null;
        for (Thing a : left) {
            for (Thing b : left.subList(left.indexOf(a) + 1, left.size())) {
                if (first == null || together(a, b) - a.area() - b.area()
                        > together(first, second) - first.area() - second.area()) {
                    first = a;
                    second = b;
                }
            }
        }
        left.remove(first);
        left.remove(second);
        Node fresh = new Node(node.level);
        List<Thing> one = node.held, two = fresh.held;
        one.clear();
        one.add(first);
        two.add(second);
        while (!left.isEmpty()) {
            if (one.size() + left.size() == least) {
                one.addAll(left);
                left.clear();
            } else if (two.size() + left.size() == least) {
                two.addAll(left);
                left.clear();
            } else {
                Thing chosen = left.get(0);
                for (Thing thing : left) {
                    if (differs(one, two, thing) > differs(one, two, chosen)) {
                        chosen = thing;
                    }
                }
                left.remove(chosen);
                better(one, two, chosen).add(chosen);
            }
        }
        return fresh;
    }

    private static long grows(List<Thing> part, Thing thing) {
        return together(part, thing) - around(part).area();
    }

    private static long differs(List<Thing> one, List<Thing> two, Thing thing) {
        return Math.abs(grows(one, thing) - grows(two, thing));
    }

    private static List<Thing> better(List<Thing> one, List<Thing> two, Thing thing) {
        if (grows(one, thing) != grows(two, thing)) {
            return grows(one, thing) < grows(two, thing) ? one : two;
        }
        if (around(one).area() != around(two).area()) {
            return around(one).area() < around(two).area() ? one : two;
        }
        return one.size() <= two.size() ? one : two;
    }

    int remove(int id, int x1, int y1, int x2, int y2) {
        Thing box = rectangle(x1, y1, x2, y2);
        if (id < 0 || id > 999 || box == null) {
            return BAD;
        }
        Entry entry = alike(id, box);
        if (entry == null) {
            return NONE;
        }
        List<Thing> homeless = new ArrayList<>();
        Node at = holderOf(entry);
        at.held.remove(entry);
        while (at != root) {
            Node above = holderOf(at);
            if (at.held.size() < least) {
                above.held.remove(at);
                homeless.addAll(at.held);
                gone++;
            }
            at = above;
        }
        refit(root);
        homelessEver += homeless.size();
        for (Thing thing : homeless) {
            put(thing);
        }
        while (root.level > 0 && root.held.size() == 1) {
            root = (Node) root.held.get(0);
        }
        window = null;
        return entries().size();
    }

    int window(int x1, int y1, int x2, int y2) {
        Thing box = rectangle(x1, y1, x2, y2);
        if (box == null) {
            return BAD;
        }
        window = box;
        windowVisited = 0;
        stack.clear();
        stack.add(root);
        return 0;
    }

    /** The stack's end is what comes next: nodes still to be asked, and entries of leaves that were read. */
    int next() {
        if (window == null) {
            return BAD;
        }
        while (!stack.isEmpty()) {
            Object top = stack.remove(stack.size() - 1);
            if (top instanceof Entry entry) {
                if (entry.meets(window)) {
                    return entry.id;
                }
            } else if (top instanceof Node node && (node == root || node.meets(window))) {
                windowVisited++;
                for (int i = node.held.size() - 1; i >= 0; i--) {
                    stack.add(node.held.get(i));
                }
            }
        }
        return NONE;
    }

    int countIn(int x1, int y1, int x2, int y2) {
        Thing box = rectangle(x1, y1, x2, y2);
        return box == null ? BAD : (int) entries().stream().filter(e -> e.meets(box)).count();
    }

    int nearest(int x, int y, int k) {
        if (x < 0 || x > 32767 || y < 0 || y > 32767 || k < 0 || k >= entries().size()) {
            return BAD;
        }
        List<Node> numbers = nodes();
        List<Thing> row = new ArrayList<>();
        row.add(root);
        int left = k;
        nearVisited = 0;
        Comparator<Thing> order = Comparator.comparingLong((Thing t) -> t.square(x, y))
            .thenComparing((a, b) -> {
                if (a instanceof Entry one && b instanceof Entry two) {
                    return BY_ID.compare(one, two);
                }
                if (a instanceof Node && b instanceof Node) {
                    return Integer.compare(numbers.indexOf(a), numbers.indexOf(b));
                }
                return a instanceof Entry ? -1 : 1;
            });
        while (true) {
            Thing taken = row.stream().min(order).orElseThrow();
            row.remove(taken);
            if (taken instanceof Node node) {
                nearVisited++;
                row.addAll(node.held);
            } else if (left-- == 0) {
                told = taken.square(x, y);
                return ((Entry) taken).id;
            }
        }
    }

    long distance() {
        return told;
    }

    int pairs() {
        List<Entry> all = entries();
        int met = 0;
        for (Entry a : all) {
            for (Entry b : all) {
                if (a != b && a.meets(b)) {
                    met++;
                }
            }
        }
        return met / 2;
    }

    int visited(int what) {
        return switch (what) {
            case 0 -> window == null ? BAD : windowVisited;
            case 1 -> nearVisited;
            case 2 -> pairsBelow(root, root);
            default -> BAD;
        };
    }

    private static int pairsBelow(Node a, Node b) {
        int counted = 1;
        for (int i = 0; i < a.held.size(); i++) {
            for (int j = a == b ? i : 0; j < b.held.size(); j++) {
                if (a.held.get(i) instanceof Node c && b.held.get(j) instanceof Node d && c.meets(d)) {
                    counted += pairsBelow(c, d);
                }
            }
        }
        return counted;
    }

    int pack() {
        window = null;
        List<Entry> all = entries();
        all.sort(ACROSS);
        int leaves = (all.size() + most - 1) / most;
        int slices = 0;
        while (slices * slices < leaves) {
            slices++;
        }
        for (int from = 0; from < all.size(); from += slices * most) {
            all.subList(from, Math.min(all.size(), from + slices * most)).sort(ALONG);
        }
        List<? extends Thing> line = all;
        int level = 0;
        do {
            line = packed(line, level++);
        } while (line.size() > 1);
        root = line.isEmpty() ? new Node(0) : (Node) line.get(0);
        refit(root);
        return nodes().size();
    }

    private List<Node> packed(List<? extends Thing> line, int level) {
        List<Node> above = new ArrayList<>();
        for (Thing thing : line) {
            if (above.isEmpty() || above.get(above.size() - 1).held.size() == most) {
                above.add(new Node(level));
            }
            above.get(above.size() - 1).held.add(thing);
        }
        if (above.size() > 1) {
            List<Thing> last = above.get(above.size() - 1).held;
            List<Thing> giving = above.get(above.size() - 2).held;
            while (last.size() < least) {
                last.add(0, giving.remove(giving.size() - 1));
            }
        }
        return above;
    }

    int clear() {
        int before = entries().size();
        root = new Node(0);
        window = null;
        return before;
    }

    int count(int what) {
        return switch (what) {
            case 0 -> entries().size();
            case 1 -> root.level + 1;
            case 2 -> nodes().size();
            case 3 -> splits;
            case 4 -> gone;
            case 5 -> homelessEver;
            case 6 -> most;
            case 7 -> least;
            default -> BAD;
        };
    }

    private static int side(Thing thing, int which) {
        return new int[] {thing.x1, thing.y1, thing.x2, thing.y2}[which];
    }

    int node(int k, int what) {
        List<Node> all = nodes();
        if (k < 0 || k >= all.size() || what < 0 || what > 6) {
            return BAD;
        }
        Node node = all.get(k);
        if (what == 0) {
            return node.level;
        }
        if (what == 1) {
            return node.held.size();
        }
        if (what == 6) {
            return node == root ? NONE : all.indexOf(holderOf(node));
        }
        return node.held.isEmpty() ? BAD : side(node, what - 2);
    }

    int held(int k, int i, int what) {
        List<Node> all = nodes();
        if (k < 0 || k >= all.size() || i < 0 || i >= all.get(k).held.size() || what < 0 || what > 4) {
            return BAD;
        }
        Thing thing = all.get(k).held.get(i);
        if (what > 0) {
            return side(thing, what - 1);
        }
        return thing instanceof Entry entry ? entry.id : all.indexOf(thing);
    }

    /** The whole tree as one text, so that two can be held against each other after every call. */
    String told() {
        StringBuilder text = new StringBuilder();
        List<Node> all = nodes();
        for (Node node : all) {
            text.append(node.level).append('/').append(node.held.size());
            for (Thing thing : node.held) {
                text.append(' ').append(thing instanceof Entry entry ? entry.id : all.indexOf(thing));
                text.append(':').append(thing.x1).append(',').append(thing.y1);
                text.append(',').append(thing.x2).append(',').append(thing.y2);
            }
            text.append('\n');
        }
        return text.toString();
    }
}
