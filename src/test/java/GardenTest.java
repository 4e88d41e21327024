/** Promises 9 to 14 and 49 to 56: what changes the garden in truth, and the status. */
public final class GardenTest {
    private static final Checks CHECKS = new Checks("GardenTest");

    public static void main(String[] args) {
        side();
        tree();
        treeRefusedInOrder();
        wish();
        wishRefused();
        content();
        move();
        fell();
        turn();
        mirror();
        improve();
        plant();
        plantBehindTheLast();
        plantUntilFull();
        seed();
        imageAndBack();
        backAndShelves();
        status();
        refusals();
        CHECKS.finish();
    }

    private static void due(String call, long got, long want) {
        CHECKS.due(call, got, want);
    }

    private static void side() {
        NineTrees x = new NineTrees();
        due("9: to 3", x.side(3), 5);
        due("9: to 8", x.side(8), 3);
        due("9: is 8", x.status(0), 8);
        due("9: 2 is bad", x.side(2), -2);
        due("9: 9 is bad", x.side(9), -2);
        due("9: -1 is bad", x.side(-1), -2);
        due("9: the last cell", x.tree(0, 63, 0), 0);
        due("9: bad before stuck", x.side(9), -2);
        due("9: stuck", x.side(4), -5);
        due("9: stuck as it is, too", x.side(8), -5);
        due("9: still 8", x.status(0), 8);
        x.fell();
        due("9: no trees again", x.side(4), 8);
        due("9: cells of 4", x.treeAt(16), -2);
        due("9: cells of 4", x.treeAt(15), -1);
        due("9: refusals", x.status(12), 5);
        due("9: refusals stuck", x.status(15), 2);
    }

    private static void tree() {
        NineTrees x = new NineTrees();
        for (int t = 0; t < 12; t++) {
            due("10: number", x.tree(t % 6, 2 * t, t % 10), t);
        }
        for (int t = 0; t < 12; t++) {
            due("10: kind", x.treeOf(t, 0), t % 6);
            due("10: cell", x.treeOf(t, 1), 2 * t);
            due("10: a", x.treeOf(t, 2), t % 10);
        }
        due("10: full", x.tree(0, 1, 0), -6);
        due("10: taken before full", x.tree(0, 0, 0), -5);
        due("10: bad before taken", x.tree(6, 0, 0), -2);
        due("10: twelve", x.status(1), 12);
        due("10: refusals full", x.status(16), 1);
        due("10: refusals stuck", x.status(15), 1);
    }

    private static void treeRefusedInOrder() {
        NineTrees x = new NineTrees();
        int[][] bad = {{-1, 0, 0}, {6, 0, 0}, {0, -1, 0}, {0, 25, 0}, {0, 0, -1}, {0, 0, 10}};
        for (int[] b : bad) {
            due("10: bad", x.tree(b[0], b[1], b[2]), -2);
        }
        due("10: none came of it", x.status(1), 0);
        due("10: refusals", x.status(12), 6);
        due("10: greatest", x.tree(5, 24, 9), 0);
        due("10: taken", x.tree(0, 24, 0), -5);
    }

    private static void wish() {
        NineTrees x = new NineTrees();
        x.plant(12);
        due("11: three", x.wish(7), 0);
        due("11: all", x.wish(4095), 1);
        due("11: the same again", x.wish(7), 2);
        for (int i = 3; i < 8; i++) {
            due("11: more", x.wish(7 << i), i);
        }
        due("11: full", x.wish(7), -6);
        due("11: bad before full", x.wish(3), -2);
        due("11: eight", x.status(5), 8);
        due("11: the fourth", x.wishOf(3), 56);
    }

    private static void wishRefused() {
        NineTrees x = Checks.planted("tree 0 0 0;tree 4 1 0;tree 1 5 0");
        int[] bad = {0, 1, 3, 6, 8, 15, 11, 14, -1, Integer.MIN_VALUE, 7 | Integer.MIN_VALUE};
        for (int set : bad) {
            due("11: bad " + set, x.wish(set), -2);
        }
        due("11: no wishes", x.status(5), 0);
        due("11: refusals", x.status(12), bad.length);
        due("11: a cherry may be in it", x.wish(7), 0);
    }

    private static void content() {
        NineTrees x = Checks.planted("tree 0 0 0;tree 4 1 0;tree 1 5 0;wish 0 1 2;wish 2 1 0");
        due("12: stuck while wished", x.fell(), -5);
        due("12: content", x.content(), 2);
        due("12: none left", x.status(5), 0);
        due("12: bad then", x.wishOf(0), -2);
        due("12: content again", x.content(), 0);
        due("12: can be felled", x.fell(), 2);
    }

    private static void move() {
        NineTrees x = Checks.planted("tree 0 0 1;tree 1 1 2;tree 2 2 3;tree 3 3 4;tree 4 4 5;tree 5 5 6");
        due("13: TREE", x.move(0, 24), 0);
        due("13: again", x.move(0, 23), 24);
        due("13: where it is", x.treeAt(23), 0);
        due("13: where it was", x.treeAt(0), -1);
        due("13: its a", x.treeOf(0, 2), 1);
        due("13: LOW", x.move(2, 0), 2);
        due("13: CHERRY", x.move(4, 2), 4);
        due("13: SPRIG", x.move(5, 4), 5);
        due("13: FIRM", x.move(1, 10), -5);
        due("13: OAK", x.move(3, 10), -5);
        due("13: taken", x.move(0, 1), -5);
        due("13: its own cell", x.move(0, 23), -5);
        due("13: no tree", x.move(6, 10), -2);
        due("13: no tree", x.move(-1, 10), -2);
        due("13: no cell", x.move(0, 25), -2);
        due("13: bad before stuck", x.move(1, -1), -2);
        due("13: it stayed", x.treeAt(1), 1);
        due("13: refusals bad", x.status(12), 4);
        due("13: refusals stuck", x.status(15), 4);
    }

    private static void fell() {
        NineTrees x = new NineTrees();
        due("14: none", x.fell(), -5);
        Checks.garden(x, "tree 0 0 1;tree 1 1 2;tree 3 2 3;tree 0 9 3;wish 0 1 2");
        x.show(0, 3);
        x.show(1, 2);
        x.show(7, 3);
        x.row(2, 1, 1);
        due("14: the last", x.fell(), 3);
        due("14: shelf of it", x.holds(0), -1);
        due("14: other shelf of it", x.holds(7), -1);
        due("14: shelf of another", x.holds(1), 12);
        due("14: shelf of a row", x.holds(2), 1);
        due("14: wished", x.fell(), -5);
        due("14: still there", x.treeAt(2), 2);
        x.content();
        due("14: an OAK can be", x.fell(), 2);
        due("14: then", x.fell(), 1);
        due("14: then", x.fell(), 0);
        due("14: none left", x.fell(), -5);
        due("14: refusals", x.status(15), 3);
        due("14: its number again", x.tree(0, 0, 0), 0);
    }

    private static void turn() {
        NineTrees x = Checks.planted("side 4;tree 0 0 1;tree 1 1 2;tree 3 6 3;tree 4 15 3");
        due("49: FIRM ones, OAKS too", x.turn(), 2);
        int[] once = {3, 7, 10, 12};
        for (int t = 0; t < 4; t++) {
            due("49: once " + t, x.treeOf(t, 1), once[t]);
        }
        x.turn();
        x.turn();
        x.turn();
        int[] home = {0, 1, 6, 15};
        for (int t = 0; t < 4; t++) {
            due("49: four times " + t, x.treeOf(t, 1), home[t]);
        }
        due("49: no trees", new NineTrees().turn(), 0);
    }

    private static void mirror() {
        NineTrees x = Checks.planted("side 3;tree 0 0 1;tree 1 1 2;tree 1 5 3;tree 3 6 3");
        due("50: FIRM ones, OAKS too", x.mirror(), 3);
        int[] once = {2, 1, 3, 8};
        for (int t = 0; t < 4; t++) {
            due("50: once " + t, x.treeOf(t, 1), once[t]);
        }
        x.mirror();
        int[] home = {0, 1, 5, 6};
        for (int t = 0; t < 4; t++) {
            due("50: twice " + t, x.treeOf(t, 1), home[t]);
        }
        due("50: no trees", new NineTrees().mirror(), 0);
    }

    private static void improve() {
        NineTrees x = Checks.planted("side 3;tree 0 0 0;tree 0 1 0;tree 0 5 0");
        due("51: better", x.improve(), 1);
        due("51: moved", x.treeAt(2), 2);
        due("51: no better one", x.improve(), 1);
        due("51: nothing moved", x.treeAt(0) * 100 + x.treeAt(1) * 10 + x.treeAt(2), 12);
        NineTrees firm = Checks.planted("side 3;tree 1 0 0;tree 1 1 0;tree 3 2 0");
        due("51: none can be moved", firm.improve(), 1);
        due("51: no trees", new NineTrees().improve(), 0);
        NineTrees even = Checks.planted("tree 0 0 0;tree 0 1 0;tree 0 2 0");
        due("51: as many by a move", even.improve(), 1);
        due("51: is no reason to move", even.treeAt(0), 0);
    }

    /** A draw by the document's words, in longs. */
    private static long next(long seed) {
        return (seed * 1103515245L + 12345L) & 0xffffffffL;
    }

    private static void plant() {
        for (int start : new int[] {1, 0, -1, 12345, Integer.MIN_VALUE, 99999999}) {
            NineTrees x = new NineTrees();
            x.side(8);
            x.seed(start);
            due("52: four", x.plant(4), 4);
            long seed = start & 0xffffffffL;
            boolean[] taken = new boolean[64];
            for (int t = 0; t < 4; t++) {
                seed = next(seed);
                due("52: kind", x.treeOf(t, 0), (seed >> 16) % 6);
                seed = next(seed);
                int cell = (int) ((seed >> 16) % 64);
                while (taken[cell]) {
                    cell = (cell + 1) % 64;
                }
                taken[cell] = true;
                due("52: cell", x.treeOf(t, 1), cell);
                seed = next(seed);
                due("52: a", x.treeOf(t, 2), (seed >> 16) % 10);
            }
            due("52: seed then", x.status(7), (int) seed);
        }
        NineTrees y = new NineTrees();
        due("52: 0 is bad", y.plant(0), -2);
        due("52: 13 is bad", y.plant(13), -2);
        due("52: -1 is bad", y.plant(-1), -2);
        due("52: no draw by that", y.status(7), 1);
        due("52: refusals", y.status(12), 3);
    }

    private static void plantBehindTheLast() {
        boolean isTried = false;
        for (int start = 1; start < 1000 && !isTried; start++) {
            if ((next(next(start)) >> 16) % 9 == 8) {
                NineTrees x = Checks.planted("side 3;tree 0 8 0;tree 0 0 0");
                x.seed(start);
                x.plant(1);
                due("52: behind the last: 0, and the next", x.treeAt(1), 2);
                NineTrees y = Checks.planted("side 3;tree 0 8 0");
                y.seed(start);
                y.plant(1);
                due("52: behind the last: 0", y.treeAt(0), 1);
                NineTrees z = Checks.planted("side 3;tree 0 7 0");
                z.seed(start);
                z.plant(1);
                due("52: the last, if it is free", z.treeAt(8), 1);
                isTried = true;
            }
        }
        CHECKS.holds("52: some seed draws the last cell", isTried);
        int start = 1;
        while (start < 1000 && (next(next(start)) >> 16) % 9 != 7) {
            start++;
        }
        NineTrees x = Checks.planted("side 3;tree 0 7 0");
        x.seed(start);
        x.plant(1);
        due("52: the last behind the one ahead of it", x.treeAt(8), 1);
    }

    private static void plantUntilFull() {
        NineTrees x = new NineTrees();
        x.side(3);
        due("52: until no cell", x.plant(12), 9);
        long seed = 1;
        for (int i = 0; i < 27; i++) {
            seed = next(seed);
        }
        due("52: three draws each, no more", x.status(7), (int) seed);
        long cells = 0;
        for (int t = 0; t < 9; t++) {
            cells |= 1L << x.treeOf(t, 1);
        }
        due("52: each cell once", cells, 511);
        due("52: none more", x.plant(1), 0);
        due("52: no draw for none", x.status(7), (int) seed);
        NineTrees y = new NineTrees();
        due("52: seven", y.plant(7), 7);
        due("52: until no room", y.plant(12), 5);
        due("52: no room", y.plant(3), 0);
        due("52: bad before that", y.plant(13), -2);
    }

    private static void seed() {
        NineTrees x = new NineTrees();
        due("53: first", x.seed(-7), 1);
        due("53: then", x.seed(Integer.MIN_VALUE), -7);
        due("53: then", x.seed(0), Integer.MIN_VALUE);
        due("53: is", x.status(7), 0);
    }

    private static void imageAndBack() {
        NineTrees x = new NineTrees();
        due("55: nothing was kept", x.back(), -5);
        Checks.garden(x, "side 6;tree 0 0 1;tree 1 1 2;tree 2 2 3;wish 0 1 2");
        x.seed(77);
        Checks.feed(x, "fell");
        due("54: image", x.image(), 1);
        due("54: the tape stays", x.status(6), 4);
        x.content();
        x.fell();
        x.fell();
        x.fell();
        x.side(3);
        x.plant(4);
        x.row(0, 0, 1);
        Checks.feed(x, ";");
        due("55: back", x.back(), 1);
        int[] status = {6, 3, 1, 0, 1, 1, 5, 77, 1, 1, -1, -1, 0, 0, 0, 1, 0};
        for (int what = 0; what < status.length; what++) {
            due("55: status " + what, x.status(what), status[what]);
        }
        for (int t = 0; t < 3; t++) {
            due("55: cell", x.treeOf(t, 1), t);
            due("55: kind", x.treeOf(t, 0), t);
            due("55: a", x.treeOf(t, 2), t + 1);
        }
        due("55: wish", x.wishOf(0), 7);
        x.move(0, 35);
        due("55: back once more", x.back(), 1);
        due("55: what was kept has not moved", x.treeAt(0), 0);
        x.move(0, 35);
        due("54: another image", x.image(), 1);
        x.move(0, 34);
        x.back();
        due("54: the newer one", x.treeAt(35), 0);
    }

    private static void backAndShelves() {
        NineTrees x = Checks.planted("tree 0 0 1;tree 0 1 1");
        x.image();
        Checks.garden(x, "tree 0 2 1");
        x.show(0, 0);
        x.show(1, 1);
        x.show(2, 2);
        x.row(3, 4, 2);
        x.set(3, 1, 1);
        x.back();
        due("55: the same number", x.holds(0), 10);
        due("55: the same number", x.holds(1), 11);
        due("55: none of that number", x.holds(2), -1);
        due("55: a row", x.element(3, 1), 1);
        x.fell();
        due("55: felled", x.holds(1), -1);
        x.back();
        due("55: shelves are not kept", x.holds(1), -1);
    }

    private static void status() {
        NineTrees x = Checks.planted("side 7;tree 0 0 1;tree 1 1 1;tree 3 2 1;tree 4 3 1;tree 4 10 1;tree 5 20 1;wish 0 1 2");
        x.feed(0);
        x.feed(255);
        x.row(0, 0, 0);
        x.show(4, 1);
        x.seed(-1);
        // Rows: one of three in row 0, and from the sprig in cell 20 one to each of these.
        int[] want = {7, 6, 4, 2, 2, 1, 2, -1, 2, 1, -1, -1, 0, 0, 0, 0, 0};
        for (int what = 0; what < want.length; what++) {
            due("56: status " + what, x.status(what), want[what]);
        }
        for (int what : new int[] {-1, 10, 11, 17, Integer.MAX_VALUE, Integer.MIN_VALUE}) {
            due("56: another " + what, x.status(what), -1);
        }
        due("56: nothing is refused", x.status(12), 0);
        due("56: the first a CHERRY", Checks.planted("tree 4 0 0;tree 0 1 0").status(3), 1);
        due("56: the first FIRM", Checks.planted("tree 1 0 0;tree 0 1 0").status(4), 1);
    }

    private static void refusals() {
        NineTrees x = new NineTrees();
        x.side(2);
        x.tree(0, 0, 0);
        x.show(0, 0);
        x.set(0, 0, 0);
        x.set(0, 0, 0);
        for (int i = 0; i < 3; i++) {
            x.set(1, 0, 0);
        }
        for (int i = 0; i < 4; i++) {
            x.side(3);
        }
        for (int i = 0; i < 255; i++) {
            x.feed(32);
        }
        for (int i = 0; i < 5; i++) {
            due("56: refusals " + (-2 - i), x.status(12 + i), i + 1);
        }
        x.image();
        x.back();
        due("56: refusals are not kept", x.status(16), 5);
    }
}
