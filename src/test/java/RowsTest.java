/** Promises 18 to 30: rows, told lists, the smallest gap, the trees that are missed. */
public final class RowsTest {
    private static final Checks CHECKS = new Checks("RowsTest");
    /** Nine trees on a side of three, tree t in cell t: eight rows of three and twelve of two. */
    private static final String NINE = nine(0);

    public static void main(String[] args) {
        treeOf();
        treeAt();
        many();
        threes();
        rowAt();
        longest();
        alone();
        through();
        inLine();
        judge();
        judgeRefused();
        gap();
        gapOfSeveral();
        missed();
        least();
        CHECKS.finish();
    }

    private static void due(String call, long got, long want) {
        CHECKS.due(call, got, want);
    }

    private static String nine(int kindInTheMiddle) {
        StringBuilder text = new StringBuilder("side 3");
        for (int t = 0; t < 9; t++) {
            text.append(";tree ").append(t == 4 ? kindInTheMiddle : 0).append(' ').append(t).append(" 0");
        }
        return text.toString();
    }

    private static void treeOf() {
        NineTrees x = Checks.planted(NINE);
        int[] rows = {5, 6, 5, 6, 4, 6, 5, 6, 5};
        int[] threes = {3, 2, 3, 2, 4, 2, 3, 2, 3};
        for (int t = 0; t < 9; t++) {
            due("18: rows of " + t, x.treeOf(t, 3), rows[t]);
            due("18: threes of " + t, x.treeOf(t, 4), threes[t]);
        }
        due("18: no tree", x.treeOf(9, 0), -2);
        due("18: no tree", x.treeOf(-1, 0), -2);
        due("18: no such what", x.treeOf(0, 5), -2);
        due("18: no such what", x.treeOf(0, -1), -2);
        due("18: refusals", x.status(12), 4);
        NineTrees y = Checks.planted(nine(4));
        due("18: kind", y.treeOf(4, 0), 4);
        due("18: a cherry is in no row", y.treeOf(4, 3), 0);
        due("18: a cherry is in no three", y.treeOf(4, 4), 0);
        due("18: two of a line with a cherry", y.treeOf(0, 4), 2);
        due("18: they are a row of two", y.treeOf(0, 3), 5);
        NineTrees z = Checks.planted("tree 5 17 8");
        due("18: kind", z.treeOf(0, 0), 5);
        due("18: cell", z.treeOf(0, 1), 17);
        due("18: a", z.treeOf(0, 2), 8);
        due("18: one tree is no row", z.treeOf(0, 3), 0);
    }

    private static void treeAt() {
        NineTrees x = Checks.planted("tree 4 24 0;tree 0 0 0");
        due("19: cherry", x.treeAt(24), 0);
        due("19: tree", x.treeAt(0), 1);
        due("19: none", x.treeAt(12), -1);
        due("19: none isn't refused", x.status(12), 0);
        due("19: below", x.treeAt(-1), -2);
        due("19: beyond", x.treeAt(25), -2);
        due("19: refusals", x.status(12), 2);
    }

    private static void many() {
        NineTrees x = Checks.planted(NINE);
        due("20: of 2", x.many(2), 12);
        due("20: of 3", x.many(3), 8);
        for (int k = 4; k <= 12; k++) {
            due("20: of " + k, x.many(k), 0);
        }
        due("20: of 1", x.many(1), -2);
        due("20: of 13", x.many(13), -2);
        due("20: refusals", x.status(12), 2);
        NineTrees y = Checks.planted("side 8;tree 0 0 0;tree 0 9 0;tree 1 18 0;tree 2 27 0;tree 3 36 0;tree 5 45 0;"
            + "tree 0 54 0;tree 0 63 0;tree 0 7 0;tree 4 8 0");
        due("20: of 8", y.many(8), 1);
        due("20: of 2", y.many(2), 8);
        due("20: of 3", y.many(3), 0);
        due("20: of none", new NineTrees().many(2), 0);
    }

    private static void threes() {
        due("21: nine", Checks.planted(NINE).threes(), 8);
        due("21: with a cherry", Checks.planted(nine(4)).threes(), 4);
        due("21: four in line are one", Checks.planted("tree 0 0 0;tree 0 1 0;tree 0 2 0;tree 0 4 0").threes(), 1);
        due("21: askew", Checks.planted("tree 0 0 0;tree 0 7 0;tree 0 14 0").threes(), 1);
        due("21: not quite", Checks.planted("tree 0 0 0;tree 0 7 0;tree 0 13 0").threes(), 0);
        due("21: no wrapping over the edge", Checks.planted("tree 0 3 0;tree 0 4 0;tree 0 5 0").threes(), 0);
        due("21: on a side of 8", Checks.planted("side 8;tree 0 0 0;tree 0 19 0;tree 0 38 0").threes(), 1);
    }

    private static void rowAt() {
        NineTrees x = Checks.planted(NINE);
        int[] threes = {7, 56, 73, 84, 146, 273, 292, 448};
        for (int i = 0; i < threes.length; i++) {
            due("22: three " + i, x.rowAt(3, i), threes[i]);
        }
        int[] twos = {10, 12, 33, 34, 66, 96, 129, 132, 136, 160, 258, 264};
        for (int i = 0; i < twos.length; i++) {
            due("22: two " + i, x.rowAt(2, i), twos[i]);
        }
        NineTrees y = Checks.planted("tree 0 0 0;tree 0 1 0;tree 0 7 0;tree 0 3 0");
        int[] sorted = {5, 6, 12};
        for (int i = 0; i < sorted.length; i++) {
            due("22: the least ahead of what is found first", y.rowAt(2, i), sorted[i]);
        }
        due("22: the three", y.rowAt(3, 0), 11);
        due("22: the least ahead", Checks.planted("tree 0 0 0;tree 0 6 0;tree 0 1 0;tree 0 12 0;tree 0 2 0").rowAt(3, 0), 11);
        due("22: the least ahead", Checks.planted("tree 0 0 0;tree 0 6 0;tree 0 1 0;tree 0 2 0;tree 0 12 0").rowAt(3, 0), 13);
        due("22: not so many", x.rowAt(3, 8), -5);
        due("22: not so many", x.rowAt(2, 12), -5);
        due("22: none of four", x.rowAt(4, 0), -5);
        due("22: far too many", x.rowAt(3, Integer.MAX_VALUE), -5);
        due("22: bad k", x.rowAt(1, 0), -2);
        due("22: bad k before stuck", x.rowAt(13, 99), -2);
        due("22: bad i", x.rowAt(3, -1), -2);
        due("22: bad i, none of four", x.rowAt(4, -1), -2);
        due("22: refusals", x.status(12) * 10 + x.status(15), 44);
    }

    private static void longest() {
        due("23: the first of several", Checks.planted(NINE).longest(), 7);
        NineTrees x = Checks.planted("tree 0 0 0;tree 0 6 0;tree 0 12 0;tree 0 1 0;tree 0 2 0;tree 0 3 0");
        due("23: more beats first", x.longest(), 57);
        NineTrees y = Checks.planted("tree 0 0 0;tree 4 1 0");
        due("23: one tree and a cherry", y.longest(), -5);
        due("23: two", Checks.planted("tree 0 0 0;tree 4 1 0;tree 0 7 0").longest(), 5);
        due("23: none", new NineTrees().longest(), -5);
        due("23: refusals", y.status(15), 1);
    }

    private static void alone() {
        due("24: none alone", Checks.planted(NINE).alone(), 0);
        due("24: a cherry", Checks.planted(nine(4)).alone(), 16);
        due("24: all", Checks.planted("tree 0 0 0;tree 4 1 0;tree 0 2 0;tree 1 9 0").alone(), 15);
        due("24: some", Checks.planted("tree 0 0 0;tree 4 1 0;tree 0 2 0;tree 1 9 0;tree 0 3 0").alone(), 10);
        due("24: no trees", new NineTrees().alone(), 0);
    }

    private static void through() {
        NineTrees x = Checks.planted(NINE);
        due("25: a three", x.through(0, 2), 7);
        due("25: the other way", x.through(8, 0), 273);
        due("25: a two", x.through(5, 0), 33);
        due("25: one twice", x.through(3, 3), -2);
        due("25: no tree", x.through(0, 9), -2);
        due("25: no tree", x.through(-1, 0), -2);
        NineTrees y = Checks.planted(nine(4));
        due("25: a cherry", y.through(0, 4), -5);
        due("25: a cherry", y.through(4, 0), -5);
        due("25: a cherry twice", y.through(4, 4), -2);
        due("25: a cherry and none", y.through(4, 9), -2);
        due("25: across a cherry", y.through(0, 8), 257);
        due("25: refusals", x.status(12) * 100 + y.status(12) * 10 + y.status(15), 322);
    }

    private static void inLine() {
        NineTrees x = Checks.planted("tree 0 0 0;tree 0 6 0;tree 1 12 0;tree 2 24 0;tree 4 18 0;tree 0 1 0");
        due("26: three", x.inLine(7), 1);
        due("26: four", x.inLine(15), 1);
        due("26: three of four", x.inLine(13), 1);
        due("26: with a cherry", x.inLine(31), 0);
        due("26: with a cherry first", x.inLine(28), 0);
        due("26: one off", x.inLine(39), 0);
        due("26: two", x.inLine(3), -2);
        due("26: none", x.inLine(0), -2);
        due("26: others", x.inLine(71), -2);
        due("26: below", x.inLine(-1), -2);
        due("26: refusals", x.status(12), 4);
    }

    private static int judged(NineTrees x, int sort, long... told) {
        x.row(0, sort, told.length);
        for (int i = 0; i < told.length; i++) {
            x.set(0, i, told[i]);
        }
        return x.judge(0, told.length);
    }

    private static void judge() {
        NineTrees x = Checks.planted("tree 0 0 0;tree 0 6 0;tree 1 12 0;tree 2 24 0;tree 4 18 0;tree 0 1 0");
        for (int sort = 0; sort < 4; sort++) {
            due("27: in a row", judged(x, sort, 3, 0, 2, 1), -1);
            due("27: off it", judged(x, sort, 3, 0, 5, 1), 2);
            due("27: not there", judged(x, sort, 3, 6, 2, 1), 1);
            due("27: below", judged(x, sort, -1, 0), 0);
            due("27: there already", judged(x, sort, 0, 0), 1);
            due("27: there already, later", judged(x, sort, 0, 1, 2, 1), 3);
            due("27: a cherry", judged(x, sort, 0, 1, 4, 9), 2);
            due("27: a cherry first", judged(x, sort, 4), 0);
        }
        due("27: booleans", judged(x, 4, 0, 5), -1);
        due("27: booleans", judged(x, 4, 5, 0, 7), 2);
        due("27: a great number", judged(x, 3, 0, 1L << 32 | 1), 1);
        due("27: a great number", judged(x, 3, 1L << 32), 0);
        due("27: a great number", judged(x, 3, 0, 1, Long.MIN_VALUE | 2), 2);
        due("27: none told", judged(x, 2), -1);
        x.row(0, 0, 40);
        due("27: the first elements alone", x.judge(0, 1), -1);
        due("27: the first elements alone", x.judge(0, 2), 1);
        due("27: none of them", x.judge(0, 0), -1);
        NineTrees y = Checks.planted("side 8;tree 0 0 0;tree 0 1 0;tree 0 2 0;tree 0 3 0;tree 0 4 0;tree 0 5 0;"
            + "tree 0 6 0;tree 0 7 0");
        due("27: eight", judged(y, 0, 7, 6, 5, 4, 3, 2, 1, 0), -1);
        due("27: nothing is refused", x.status(12) + y.status(12), 0);
    }

    private static void judgeRefused() {
        NineTrees x = Checks.planted("tree 0 0 0");
        x.row(0, 0, 3);
        x.show(1, 0);
        due("27: bad shelf", x.judge(8, 0), -2);
        due("27: bad shelf", x.judge(-1, 0), -2);
        due("27: bad n", x.judge(0, 13), -2);
        due("27: bad n before other", x.judge(1, -1), -2);
        due("27: bad n before nothing", x.judge(2, 13), -2);
        due("27: other", x.judge(1, 12), -3);
        due("27: nothing", x.judge(2, 12), -4);
        due("27: fewer elements", x.judge(0, 4), -2);
        due("27: just so many", x.judge(0, 3), 1);
        due("27: refusals", x.status(12) * 100 + x.status(13) * 10 + x.status(14), 611);
    }

    private static void gap() {
        NineTrees x = Checks.planted(NINE);
        due("28: the row", x.gap(0), 12);
        due("28: the tree", x.gap(1), 1);
        due("28: bad", x.gap(2), -2);
        due("28: bad", x.gap(-1), -2);
        NineTrees y = Checks.planted("tree 0 0 0;tree 0 4 0");
        due("28: two trees", y.gap(0), -5);
        due("28: two trees", y.gap(1), -5);
        due("28: bad before stuck", y.gap(2), -2);
        Checks.garden(y, "tree 4 12 0");
        due("28: a cherry off it", y.gap(0), -5);
        Checks.garden(y, "tree 0 2 0");
        due("28: all in one row", y.gap(1), -5);
        due("28: refusals", y.status(15), 4);
        due("28: no trees", new NineTrees().gap(0), -5);
        for (int t = 0; t < 7; t++) {
            x.fell();
        }
        due("28: none any more", x.gap(1), -5);
    }

    private static void gapOfSeveral() {
        // Row 0 and a tree below it: distances 1 to row {0,1}, less to the slanting ones.
        NineTrees x = Checks.planted("tree 0 0 0;tree 0 4 0;tree 0 7 0");
        // {0,1}: 16/16; {0,2}: 16/5; {1,2}: 16/5.
        due("28: a long row is near", x.gap(0), 3);
        due("28: its tree", x.gap(1), 2);
        NineTrees y = Checks.planted("tree 0 0 0;tree 0 1 0;tree 0 5 0;tree 0 6 0");
        // The diagonals {0,3} = 9 and {1,2} = 6 have two trees each at half a yard, squared.
        due("28: the first row", y.gap(0), 6);
        due("28: then the first tree", y.gap(1), 0);
        NineTrees z = Checks.planted("tree 4 1 0;tree 0 0 0;tree 0 6 0;tree 0 5 0");
        due("28: cherries are left out", z.gap(0), 6);
        due("28: cherries are left out", z.gap(1), 3);
    }

    private static void missed() {
        NineTrees x = Checks.planted(NINE);
        int[] by = {3, 2, 3, 2, 4, 2, 3, 2, 3};
        for (int t = 0; t < 9; t++) {
            due("29: missed " + t, x.missed(t), by[t]);
        }
        due("29: bad", x.missed(9), -2);
        due("29: bad", x.missed(-1), -2);
        due("29: refusals", x.status(12), 2);
        NineTrees y = Checks.planted("tree 0 0 0;tree 0 1 0;tree 0 2 0;tree 0 3 0;tree 0 5 0;tree 0 10 0;tree 4 20 0");
        due("29: four in a row don't miss one", y.missed(1), 0);
        due("29: but three do", y.missed(0), 1);
        due("29: a cherry", y.missed(6), 0);
    }

    private static void least() {
        due("30: the first of several", Checks.planted(NINE).least(), 1);
        due("30: a cherry", Checks.planted(nine(4)).least(), 4);
        due("30: of one", Checks.planted("tree 1 0 0").least(), 0);
        due("30: the last", Checks.planted("tree 0 0 0;tree 0 1 0;tree 0 2 0;tree 0 9 0").least(), 3);
        NineTrees x = new NineTrees();
        due("30: no trees", x.least(), -5);
        due("30: refusals", x.status(15), 1);
    }
}
