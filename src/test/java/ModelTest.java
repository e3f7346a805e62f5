import java.util.ArrayList;
import java.util.List;
import java.util.Random;

/**
 * Long runs of calls, the same every time, on the program and on PlainTree side by side: every
 * answer and, after each change, every node must be the same.
 */
public final class ModelTest {
    private static final int CALLS = 512;

    /** How a run's places, sizes and calls are spread. */
    private record Manner(int places, int sizes, int ids, int removing) { }

    private static final Manner[] MANNERS = {
        new Manner(32768, 400, 1000, 25),
        new Manner(32768, 32768, 1000, 25),
        new Manner(60, 10, 1000, 30),
        new Manner(12, 3, 5, 35),
        new Manner(6, 1, 1000, 30),
        new Manner(300, 40, 40, 5),
        new Manner(2000, 1, 1000, 45),
    };

    private final Random random;
    private final Manner manner;
    private final AreaTree tree;
    private final PlainTree plain;
    private final List<int[]> known = new ArrayList<>();
    private final String name;

    private ModelTest(int run) {
        random = new Random(7919L * run + 17);
        manner = MANNERS[run % MANNERS.length];
        int most = random.nextInt(14) - 1;
        int least = random.nextInt(8) - 1;
        name = "run " + run + " (" + most + ", " + least + ")";
        tree = new AreaTree(most, least);
        plain = new PlainTree(most, least);
    }

    public static void main(String[] args) {
        int runs = 140;
        for (int run = 0; run < runs; run++) {
            String wrong = new ModelTest(run).goThrough();
            if (wrong != null) {
                System.out.println(wrong);
                System.exit(1);
            }
        }
        for (int most = 4; most <= 10; most += 3) {
            fill(most);
        }
        System.out.println(runs + " runs are as the model's");
    }

    private String goThrough() {
        // Growing goes on for longer in some runs, so that trees of several levels are thinned out too.
        int growing = random.nextInt(400);
        for (int call = 0; call < CALLS; call++) {
            String wrong = step(call < growing);
            if (wrong != null) {
                return name + ", call " + call + ": " + wrong;
            }
        }
        return null;
    }

    private String step(boolean growing) {
        int dice = random.nextInt(100);
        if (growing && dice < 80) {
            return insertOne();
        }
        if (dice < 30) {
            return dice < manner.removing ? removeOne() : insertOne();
        }
        return dice < 45 ? removeOne() : dice < 55 ? insertOne() : dice < 57 ? repack() : ask(dice);
    }

    private int place() {
        return random.nextInt(60) == 0 ? random.nextInt(5) * 16384 - 16384 : random.nextInt(manner.places);
    }

    private int[] box() {
        int x = place(), y = place();
        int right = x + random.nextInt(manner.sizes), high = y + random.nextInt(manner.sizes);
        if (random.nextInt(40) != 0) {
            right = Math.min(32767, right);
            high = Math.min(32767, high);
        }
        return random.nextInt(80) == 0 ? new int[] {right, high, x, y} : new int[] {x, y, right, high};
    }

    private String insertOne() {
        int[] b = box();
        int id = random.nextInt(50) == 0 ? 1000 - 1001 * random.nextInt(2) : random.nextInt(manner.ids);
        if (!known.isEmpty() && random.nextInt(30) == 0) {
            int[] old = known.get(random.nextInt(known.size()));
            id = old[0];
            b = new int[] {old[1], old[2], old[3], old[4]};
        }
        int got = tree.insert(id, b[0], b[1], b[2], b[3]);
        int due = plain.insert(id, b[0], b[1], b[2], b[3]);
        if (due > 0) {
            known.add(new int[] {id, b[0], b[1], b[2], b[3]});
        }
        return changed("insert(" + id + ", " + text(b) + ")", got, due);
    }

    private String removeOne() {
        int[] b = box();
        int id = random.nextInt(1002) - 1;
        if (!known.isEmpty() && random.nextInt(20) != 0) {
            int[] old = known.remove(random.nextInt(known.size()));
            id = old[0];
            b = new int[] {old[1], old[2], old[3], old[4]};
        }
        int got = tree.remove(id, b[0], b[1], b[2], b[3]);
        int due = plain.remove(id, b[0], b[1], b[2], b[3]);
        return changed("remove(" + id + ", " + text(b) + ")", got, due);
    }

    private String repack() {
        if (random.nextInt(8) == 0) {
            known.clear();
            return changed("clear()", tree.clear(), plain.clear());
        }
        return changed("pack()", tree.pack(), plain.pack());
    }

    private String ask(int dice) {
        int[] b = box();
        int what = random.nextInt(10) - 1;
        int k = random.nextInt(plain.count(2) + 2) - 1;
        int i = random.nextInt(13) - 1;
        if (dice < 62) {
            return same("window(" + text(b) + ")", tree.window(b[0], b[1], b[2], b[3]),
                plain.window(b[0], b[1], b[2], b[3]));
        }
        if (dice < 72) {
            return same("next()", tree.next(), plain.next());
        }
        if (dice < 75) {
            return same("countIn(" + text(b) + ")", tree.countIn(b[0], b[1], b[2], b[3]),
                plain.countIn(b[0], b[1], b[2], b[3]));
        }
        if (dice < 82) {
            int far = random.nextInt(plain.count(0) + 3) - 1;
            return same("nearest(" + b[0] + ", " + b[1] + ", " + far + ")",
                tree.nearest(b[0], b[1], far), plain.nearest(b[0], b[1], far));
        }
        if (dice < 84) {
            return same("distance()", tree.distance(), plain.distance());
        }
        if (dice < 86) {
            return same("pairs()", tree.pairs(), plain.pairs());
        }
        if (dice < 91) {
            return same("visited(" + (what / 2) + ")", tree.visited(what / 2), plain.visited(what / 2));
        }
        if (dice < 94) {
            return same("count(" + what + ")", tree.count(what), plain.count(what));
        }
        if (dice < 97) {
            return same("node(" + k + ", " + what + ")", tree.node(k, what), plain.node(k, what));
        }
        return same("held(" + k + ", " + i + ", " + what + ")", tree.held(k, i, what), plain.held(k, i, what));
    }

    private static String text(int[] b) {
        return b[0] + ", " + b[1] + ", " + b[2] + ", " + b[3];
    }

    private String same(String call, long got, long due) {
        return got == due ? null : call + " answered " + got + ", due is " + due;
    }

    private String changed(String call, int got, int due) {
        if (got != due) {
            return same(call, got, due);
        }
        if (!tree.audit()) {
            return call + ": audit() answered false behind it";
        }
        for (int what = 0; what < 8; what++) {
            if (tree.count(what) != plain.count(what)) {
                return call + ": behind it " + same("count(" + what + ")", tree.count(what), plain.count(what));
            }
        }
        return told(tree).equals(plain.told()) ? null : call + ": the nodes behind it are\n" + told(tree)
            + "due are\n" + plain.told();
    }

    private static String told(AreaTree tree) {
        StringBuilder text = new StringBuilder();
        for (int k = 0; k < tree.count(2); k++) {
            text.append(tree.node(k, 0)).append('/').append(tree.node(k, 1));
            for (int i = 0; i < tree.node(k, 1); i++) {
                text.append(' ').append(tree.held(k, i, 0)).append(':').append(tree.held(k, i, 1));
                for (int what = 2; what <= 4; what++) {
                    text.append(',').append(tree.held(k, i, what));
                }
            }
            text.append('\n');
        }
        return text.toString();
    }

    /** 400 entries, packed, and thinned out to none: the document's limit, and the tree's way back. */
    private static void fill(int most) {
        AreaTree tree = new AreaTree(most, 2);
        PlainTree plain = new PlainTree(most, 2);
        for (int i = 0; i < 402; i++) {
            int x = i * 7919 % 2003, y = i * 104729 % 1999;
            expect(tree.insert(i, x, y, x + i % 17, y + i % 13), plain.insert(i, x, y, x + i % 17, y + i % 13));
        }
        expect(tree.count(0), 400);
        expect(tree.nearest(900, 900, 399), plain.nearest(900, 900, 399));
        expect(tree.visited(1), plain.visited(1));
        expect(tree.pairs(), plain.pairs());
        expect(tree.visited(2), plain.visited(2));
        expect(tree.pack(), plain.pack());
        for (int i = 401; i >= 0; i--) {
            int x = i * 7919 % 2003, y = i * 104729 % 1999;
            expect(tree.remove(i, x, y, x + i % 17, y + i % 13), plain.remove(i, x, y, x + i % 17, y + i % 13));
            if (!told(tree).equals(plain.told()) || !tree.audit()) {
                throw new IllegalStateException("thinning out, at " + i);
            }
        }
        expect(tree.count(0), 0);
    }

    private static void expect(int got, int due) {
        if (got != due) {
            throw new IllegalStateException("answered " + got + ", due is " + due);
        }
    }
}
