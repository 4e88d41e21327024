/** Promises 1 to 8: a new object, shelves, rows of numbers, what trees say. */
public final class ShelvesTest {
    private static final int BIG = Integer.MAX_VALUE;
    private static final Checks CHECKS = new Checks("ShelvesTest");

    public static void main(String[] args) {
        newObject();
        row();
        set();
        copy();
        copyRefused();
        element();
        holds();
        show();
        says();
        saysByKinds();
        saysRefused();
        CHECKS.finish();
    }

    private static void due(String call, long got, long want) {
        CHECKS.due(call, got, want);
    }

    private static void newObject() {
        NineTrees x = new NineTrees();
        int[] status = {5, 0, 0, 0, 0, 0, 0, 1, 0, 0, -1, -1, 0, 0, 0, 0, 0};
        for (int what = 0; what < status.length; what++) {
            due("1: new, status " + what, x.status(what), status[what]);
        }
        for (int s = 0; s < 8; s++) {
            due("1: new, holds " + s, x.holds(s), NineTrees.NONE);
        }
        due("1: new, treeAt 24", x.treeAt(24), -1);
        due("1: new, treeAt 25", x.treeAt(25), -2);
        due("1: new, wipe", x.wipe(), 0);
        due("1: new, back", x.back(), -5);
    }

    private static void row() {
        NineTrees x = new NineTrees();
        for (int sort = 0; sort <= 4; sort++) {
            due("2: row of sort " + sort, x.row(sort, sort, 40), 1);
            due("2: holds sort " + sort, x.holds(sort), sort);
            due("2: first element", x.element(sort, 0), 0);
        }
        due("2: last shelf, no elements", x.row(7, 4, 0), 1);
        due("2: empty row is held", x.status(8), 6);
        due("2: an empty row has no element 0", x.set(7, 0, 1), -2);
        x.set(3, 0, 9);
        x.set(3, 39, 9);
        due("2: a new row for the old", x.row(3, 3, 40), 1);
        due("2: the new row is all 0", x.element(3, 0), 0);
        due("2: the new row is all 0", x.element(3, 39), 0);
        NineTrees y = new NineTrees();
        int[][] bad = {{-1, 0, 1}, {8, 0, 1}, {0, -1, 1}, {0, 5, 1}, {0, 0, -1}, {0, 0, 41}, {0, 0, BIG}};
        for (int[] b : bad) {
            due("2: bad row", y.row(b[0], b[1], b[2]), -2);
        }
        due("2: refusals", y.status(12), bad.length);
        due("2: nothing held by bad rows", y.status(8), 0);
        y.tree(0, 0, 0);
        y.show(1, 0);
        due("2: row for a tree", y.row(1, 2, 3), 1);
        due("2: row for a tree, held", y.holds(1), 2);
    }

    private static void set() {
        NineTrees x = new NineTrees();
        long[][] kept = {
            {0, 127, 127}, {0, 128, -128}, {0, 200, -56}, {0, 256, 0}, {0, -1, -1}, {0, 0x1234567L, 0x67},
            {1, 32767, 32767}, {1, 32768, -32768}, {1, 65536, 0}, {1, 0x123456789L, 0x6789},
            {2, 2147483647L, 2147483647L}, {2, 2147483648L, -2147483648L}, {2, 1L << 32, 0},
            {3, Long.MIN_VALUE, Long.MIN_VALUE}, {3, Long.MAX_VALUE, Long.MAX_VALUE},
            {4, 0, 0}, {4, 1, 1}, {4, -7, 1}, {4, 256, 1}, {4, 1L << 40, 1}};
        for (long[] k : kept) {
            x.row(2, (int) k[0], 3);
            due("3: set", x.set(2, 1, k[1]), 1);
            due("3: what " + k[1] + " keeps in sort " + k[0], x.element(2, 1), k[2]);
            due("3: neighbour", x.element(2, 2), 0);
        }
        x.set(2, 1, 0);
        due("3: true becomes not so", x.element(2, 1), 0);
        x.tree(0, 0, 0);
        x.show(5, 0);
        due("3: bad shelf", x.set(-1, 0, 1), -2);
        due("3: bad shelf", x.set(8, 0, 1), -2);
        due("3: a tree, and bad i", x.set(5, -1, 1), -3);
        due("3: nothing, and bad i", x.set(6, 99, 1), -4);
        due("3: i below", x.set(2, -1, 1), -2);
        due("3: i beyond", x.set(2, 3, 1), -2);
        due("3: refusals bad", x.status(12), 4);
        due("3: refusals other", x.status(13), 1);
        due("3: refusals nothing", x.status(14), 1);
    }

    private static NineTrees withRow(int s, int n) {
        NineTrees x = new NineTrees();
        x.row(s, 2, n);
        for (int i = 0; i < n; i++) {
            x.set(s, i, i + 1);
        }
        return x;
    }

    private static void elements(String what, NineTrees x, int s, long... want) {
        for (int i = 0; i < want.length; i++) {
            due(what + ", element " + i, x.element(s, i), want[i]);
        }
    }

    private static void copy() {
        NineTrees x = withRow(0, 5);
        due("4: copy on itself, upwards", x.copy(0, 0, 0, 1, 4), 4);
        elements("4: upwards", x, 0, 1, 1, 2, 3, 4);
        x = withRow(0, 5);
        due("4: copy on itself, downwards", x.copy(0, 0, 1, 0, 4), 4);
        elements("4: downwards", x, 0, 2, 3, 4, 5, 5);
        x.row(1, 2, 3);
        due("4: to another", x.copy(0, 1, 3, 1, 2), 2);
        elements("4: to another", x, 1, 0, 5, 5);
        due("4: all of a row", x.copy(1, 0, 0, 2, 3), 3);
        elements("4: all of a row", x, 0, 2, 3, 0, 5, 5);
        due("4: none", x.copy(0, 1, 0, 0, 0), 0);
        due("4: none at both ends", x.copy(0, 1, 5, 3, 0), 0);
        elements("4: none", x, 1, 0, 5, 5);
        x.row(2, 2, 0);
        due("4: none of none", x.copy(2, 2, 0, 0, 0), 0);
    }

    private static void copyRefused() {
        NineTrees x = withRow(0, 5);
        x.row(1, 3, 5);
        x.row(2, 2, 3);
        x.tree(0, 0, 0);
        x.show(4, 0);
        int[][] calls = {
            {-1, 0, 0, 0, 1, -2}, {8, 0, 0, 0, 1, -2}, {0, -1, 0, 0, 1, -2}, {0, 8, 0, 0, 1, -2}, {4, 9, 0, 0, 1, -2},
            {4, 0, 0, 0, 1, -3}, {0, 4, 0, 0, 1, -3}, {4, 7, 0, 0, 1, -3}, {7, 4, 0, 0, 1, -3}, {4, 4, 0, 0, 0, -3},
            {0, 1, 0, 0, 1, -3}, {0, 1, -1, 0, 1, -3},
            {0, 7, 0, 0, 1, -4}, {7, 0, 0, 0, 1, -4}, {7, 7, 0, 0, 0, -4}, {7, 0, -1, -1, -1, -4},
            {0, 2, -1, 0, 1, -2}, {0, 2, 0, -1, 1, -2}, {0, 2, 0, 0, -1, -2}, {0, 2, 5, 0, 1, -2}, {0, 2, 0, 3, 1, -2},
            {0, 2, 0, 0, 4, -2}, {2, 0, 0, 0, 4, -2}, {0, 2, 6, 0, 0, -2}, {0, 2, 0, 4, 0, -2},
            {0, 2, 1, 0, BIG, -2}, {0, 2, BIG, 0, 1, -2}, {0, 2, 0, BIG, 1, -2}, {0, 0, BIG, BIG, BIG, -2},
            {0, 0, 0, 0, Integer.MIN_VALUE, -2}};
        int[] refusals = new int[7];
        for (int[] c : calls) {
            due("4: refused copy " + java.util.Arrays.toString(c), x.copy(c[0], c[1], c[2], c[3], c[4]), c[5]);
            refusals[-c[5]]++;
        }
        due("4: refusals bad", x.status(12), refusals[2]);
        due("4: refusals other", x.status(13), refusals[3]);
        due("4: refusals nothing", x.status(14), refusals[4]);
        elements("4: nothing changed", x, 0, 1, 2, 3, 4, 5);
        elements("4: nothing changed", x, 2, 0, 0, 0);
    }

    private static void element() {
        NineTrees x = withRow(0, 3);
        elements("5: elements", x, 0, 1, 2, 3);
        due("5: beyond", x.element(0, 3), 0);
        due("5: below", x.element(0, -1), 0);
        due("5: nothing", x.element(1, 0), 0);
        due("5: no shelf", x.element(8, 0), 0);
        due("5: no shelf", x.element(-1, 0), 0);
        x.tree(0, 3, 7);
        x.show(0, 0);
        due("5: a tree", x.element(0, 0), 0);
        for (int what = 12; what <= 16; what++) {
            due("5: nothing is refused", x.status(what), 0);
        }
    }

    private static void holds() {
        NineTrees x = new NineTrees();
        due("6: nothing", x.holds(0), -1);
        due("6: no shelf", x.holds(8), -1);
        due("6: no shelf", x.holds(-1), -1);
        x.plant(12);
        for (int t = 0; t < 12; t++) {
            x.show(t % 8, t);
            due("6: tree", x.holds(t % 8), 10 + t);
        }
        x.row(0, 4, 1);
        due("6: booleans", x.holds(0), 4);
        due("6: nothing is refused", x.status(12), 0);
    }

    private static void show() {
        NineTrees x = new NineTrees();
        due("7: no such tree", x.show(0, 0), -2);
        x.tree(0, 0, 0);
        due("7: tree", x.show(0, 0), 1);
        due("7: in another shelf, too", x.show(7, 0), 1);
        due("7: held", x.holds(7), 10);
        due("7: shelves in use", x.status(8), 2);
        due("7: bad shelf", x.show(8, 0), -2);
        due("7: bad shelf", x.show(-1, -1), -2);
        due("7: bad tree", x.show(0, 1), -2);
        due("7: bad tree", x.show(0, -2), -2);
        due("7: held still", x.holds(0), 10);
        due("7: nothing", x.show(0, NineTrees.NONE), 1);
        due("7: nothing held", x.holds(0), -1);
        x.row(1, 3, 4);
        due("7: nothing for a row", x.show(1, -1), 1);
        due("7: nothing for a row, held", x.holds(1), -1);
        x.row(1, 3, 4);
        due("7: a tree for a row", x.show(1, 0), 1);
        due("7: a tree for a row, held", x.holds(1), 10);
        due("7: refusals", x.status(12), 5);
    }

    /** Row 0 of the garden: OAK, TREE, CHERRY, SPRIG, FIRM in cells 0, 1, 2, 3, 4, and a LOW one in cell 12. */
    private static NineTrees kinds() {
        NineTrees x = Checks.planted("tree 3 0 7;tree 0 1 1;tree 4 2 2;tree 5 3 8;tree 1 4 3;tree 2 12 5;"
            + "wish 0 1 3;wish 0 4 5;wish 0 3 4");
        for (int t = 0; t < 6; t++) {
            x.show(t, t);
        }
        return x;
    }

    private static void says() {
        NineTrees x = kinds();
        due("8: OAK as TREE: threes", x.says(0, 0), 1);
        due("8: OAK as FIRM: wishes", x.says(0, 1), 3);
        due("8: OAK as OAK: a", x.says(0, 3), 7);
        due("8: TREE: threes", x.says(1, 0), 1);
        due("8: CHERRY as TREE: threes", x.says(2, 0), 0);
        due("8: CHERRY: distance", x.says(2, 4), 1);
        due("8: SPRIG as TREE: threes", x.says(3, 0), 1);
        // Of the sprig in cell 3: from 0 and 1 the cherry hides it, from 2, 4 and 12 nothing does.
        due("8: SPRIG as LOW: seen from", x.says(3, 2), 3);
        due("8: SPRIG as SPRIG: a", x.says(3, 5), 8);
        due("8: FIRM: wishes", x.says(4, 1), 2);
        due("8: LOW as TREE: threes", x.says(5, 0), 0);
        due("8: LOW: seen from", x.says(5, 2), 5);
    }

    private static void saysByKinds() {
        NineTrees x = Checks.planted("tree 4 0 1");
        x.show(0, 0);
        due("8: CHERRY, no other tree", x.says(0, 4), 0);
        Checks.garden(x, "tree 4 24 1");
        due("8: CHERRY, one far away", x.says(0, 4), 8);
        x.show(1, 1);
        due("8: CHERRY, the first far away", x.says(1, 4), 8);
        Checks.garden(x, "tree 2 13 1; tree 0 11 1");
        due("8: CHERRY, the nearest", x.says(0, 4), 3);
        x.show(1, 2);
        due("8: LOW, seen from all", x.says(1, 2), 3);
        Checks.garden(x, "tree 0 12 1");
        due("8: LOW, hidden from one", x.says(1, 2), 3);
        due("8: LOW as TREE, in a row of three", x.says(1, 0), 1);
        // Each kind can be taken for just itself and those above it.
        boolean[][] fits = {
            {true, false, false, false, false, false}, {true, true, false, false, false, false},
            {true, false, true, false, false, false}, {true, true, false, true, false, false},
            {true, false, false, false, true, false}, {true, false, true, false, false, true}};
        NineTrees y = Checks.planted("tree 0 0 0;tree 1 1 0;tree 2 2 0;tree 3 3 0;tree 4 4 0;tree 5 5 0");
        for (int own = 0; own < 6; own++) {
            y.show(own, own);
            for (int kind = 0; kind < 6; kind++) {
                CHECKS.holds("8: " + own + " taken for " + kind, y.says(own, kind) != -3 == fits[own][kind]);
            }
        }
    }

    private static void saysRefused() {
        NineTrees x = kinds();
        x.row(6, 0, 3);
        due("8: bad shelf", x.says(8, 0), -2);
        due("8: bad shelf", x.says(-1, 0), -2);
        due("8: bad kind, tree", x.says(0, 6), -2);
        due("8: bad kind, row", x.says(6, -1), -2);
        due("8: bad kind, nothing", x.says(7, 6), -2);
        due("8: a row", x.says(6, 0), -3);
        due("8: another kind", x.says(0, 2), -3);
        due("8: a kind below", x.says(4, 3), -3);
        due("8: nothing", x.says(7, 0), -4);
        due("8: nothing, any kind", x.says(7, 5), -4);
        due("8: refusals bad", x.status(12), 5);
        due("8: refusals other", x.status(13), 3);
        due("8: refusals nothing", x.status(14), 2);
    }
}
