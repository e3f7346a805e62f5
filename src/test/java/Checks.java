import java.lang.reflect.Field;
import java.util.function.IntSupplier;

/**
 * What the tests by promise and by sentence share: answers held against those that are due, and
 * trees that many cases begin with. Telling a whole state takes more than the 512 calls that an
 * object is promised for; the program does not count calls, and these tests lean on that.
 */
abstract class Checks {
    static final int BAD = -1, NONE = -2, TOO_MANY = -3;
    static final int LAST = 32767;

    private static String where = "";
    private static int sentences = 0;
    private static int wrong = 0;

    /** From here on answers are asked for the sake of these words of the document. */
    static void sentence(String part, String words) {
        where = part + ", \"" + words + "\"";
        sentences++;
    }

    static void promise(int number) {
        where = "promise " + number;
    }

    static void promise(int number, String words) {
        sentence("promise " + number, words);
    }

    static void due(String call, long got, long want) {
        if (got != want) {
            wrong++;
            System.out.println(where + ": " + call + " answered " + got + ", due is " + want);
        }
    }

    static void due(String call, boolean got, boolean want) {
        due(call, got ? 1 : 0, want ? 1 : 0);
    }

    /** Tells how all went, and ends with exit code 1 if an answer was not as due. */
    static void finish() {
        String asked = sentences == 0 ? "" : sentences + " sentences: ";
        System.out.println(asked + (wrong == 0 ? "all answers are as due" : wrong + " answers are not as due"));
        if (wrong != 0) {
            System.exit(1);
        }
    }

    /** What node k holds, in order: ids or numbers. */
    static void holds(AreaTree tree, int k, int... due) {
        due("node(" + k + ", 1)", tree.node(k, 1), due.length);
        for (int i = 0; i < due.length; i++) {
            due("held(" + k + ", " + i + ", 0)", tree.held(k, i, 0), due[i]);
        }
    }

    static void rectangle(AreaTree tree, int k, int x1, int y1, int x2, int y2) {
        int[] sides = {x1, y1, x2, y2};
        for (int i = 0; i < 4; i++) {
            due("node(" + k + ", " + (i + 2) + ")", tree.node(k, i + 2), sides[i]);
        }
    }

    /** What count() answers from 0 on. */
    static void counts(AreaTree tree, int... due) {
        for (int what = 0; what < due.length; what++) {
            due("count(" + what + ")", tree.count(what), due[what]);
        }
    }

    /** All that can be asked without a change; what next() would tell is not in it. */
    static String state(AreaTree tree) {
        StringBuilder text = new StringBuilder();
        for (int what = 0; what < 8; what++) {
            text.append(tree.count(what)).append(' ');
        }
        for (int what = 0; what < 3; what++) {
            text.append(tree.visited(what)).append(' ');
        }
        text.append(tree.distance()).append(' ').append(tree.pairs()).append(' ').append(tree.audit());
        for (int k = 0; k < tree.count(2); k++) {
            text.append('\n');
            for (int what = 0; what < 7; what++) {
                text.append(tree.node(k, what)).append(' ');
            }
            for (int i = 0; i < tree.node(k, 1); i++) {
                for (int what = 0; what < 5; what++) {
                    text.append(tree.held(k, i, what)).append(' ');
                }
            }
        }
        return text.toString();
    }

    /** A call that answers what is due, and behind which all is as it was before. */
    static void unchanged(AreaTree tree, String call, IntSupplier made, int due) {
        String before = state(tree);
        due(call, made.getAsInt(), due);
        due(call + ", then all as before", state(tree).equals(before), true);
    }

    interface WithBounds {
        void check(int most, int least);
    }

    /** Every M and N that an object can have. */
    static void forAllBounds(WithBounds checked) {
        for (int most = 4; most <= 10; most++) {
            for (int least = 2; least <= most / 2; least++) {
                checked.check(most, least);
            }
        }
    }

    /** A field inside the program: what no call can show, such as a broken tree, only a hand inside it can. */
    static Object inside(Object object, String name) throws ReflectiveOperationException {
        return field(object, name).get(object);
    }

    static Field field(Object object, String name) throws ReflectiveOperationException {
        Field field = object.getClass().getDeclaredField(name);
        field.setAccessible(true);
        return field;
    }

    static void point(AreaTree tree, int id, int x, int y) {
        tree.insert(id, x, y, x, y);
    }

    static int takeFromLine(AreaTree tree, int x) {
        return tree.remove(x, x, 0, x, 0);
    }

    /** Leaf 1 has 1, 5 and 3 in (0, 0) to (1, 1), leaf 2 has 2 and 4 in (8, 8) to (9, 9). */
    static AreaTree twoLeaves() {
        AreaTree tree = new AreaTree(4, 2);
        point(tree, 1, 0, 0);
        point(tree, 2, 9, 9);
        point(tree, 3, 1, 1);
        point(tree, 4, 8, 8);
        point(tree, 5, 0, 1);
        return tree;
    }

    /** One place each, on one line, with ids from 1 on. */
    static AreaTree line(int... xs) {
        AreaTree tree = new AreaTree(4, 2);
        for (int i = 0; i < xs.length; i++) {
            point(tree, i + 1, xs[i], 0);
        }
        return tree;
    }

    /** The places 0, 1, 2 .. of one line, each with itself as its id. */
    static AreaTree row(int most, int least, int places) {
        AreaTree tree = new AreaTree(most, least);
        for (int x = 0; x < places; x++) {
            point(tree, x, x, 0);
        }
        return tree;
    }

    /** Node 1 holds the leaves 2 to 4 (0 to 3, 4 to 7, 8 to 11), node 5 holds 6 and 7 (12 to 15, 16 to 19). */
    static AreaTree twentyPacked() {
        AreaTree tree = row(4, 2, 20);
        tree.pack();
        return tree;
    }

    static AreaTree full() {
        AreaTree tree = new AreaTree(10, 5);
        for (int i = 0; i < 400; i++) {
            tree.insert(i, i * 3, i * 5, i * 3 + 4, i * 5 + 4);
        }
        return tree;
    }
}
