/** Promises 31 to 34 and 39 to 41: moves, where one more may stand, wishes. */
public final class MovesTest {
    private static final Checks CHECKS = new Checks("MovesTest");

    public static void main(String[] args) {
        best();
        bestOfKinds();
        bestBreaks();
        moved();
        may();
        most();
        wishOf();
        met();
        bestFor();
        bestForOfSeveral();
        CHECKS.finish();
    }

    private static void due(String call, long got, long want) {
        CHECKS.due(call, got, want);
    }

    private static void best(String what, NineTrees x, int tree, int cell, int many) {
        long before = places(x);
        due(what + ", tree", x.best(0), tree);
        due(what + ", cell", x.best(1), cell);
        due(what + ", threes", x.best(2), many);
        due(what + ", nothing is changed", places(x), before);
    }

    private static void bestFor(String what, NineTrees x, int tree, int cell, int many) {
        long before = places(x);
        due(what + ", tree", x.bestFor(0), tree);
        due(what + ", cell", x.bestFor(1), cell);
        due(what + ", wishes", x.bestFor(2), many);
        due(what + ", nothing is changed", places(x), before);
    }

    private static long places(NineTrees x) {
        long all = x.status(1);
        for (int t = 0; t < x.status(1); t++) {
            all = all * 64 + x.treeOf(t, 1);
        }
        return all;
    }

    private static void best() {
        best("31: one move to a three", Checks.planted("side 3;tree 0 0 0;tree 0 1 0;tree 0 5 0"), 2, 2, 1);
        best("31: of several the first", Checks.planted("side 3;tree 0 0 0;tree 0 1 0;tree 1 5 0"), 0, 2, 0);
        NineTrees x = new NineTrees();
        best("31: no trees", x, -1, -1, -1);
        due("31: NONE isn't refused", x.status(12) + x.status(15), 0);
        due("31: bad", x.best(3), -2);
        due("31: bad", x.best(-1), -2);
        due("31: refusals", x.status(12), 2);
        // Trees 0 and 1 in row 0, 2 and 3 in column 4: tree 4 at their crossing makes two.
        best("31: at a crossing", Checks.planted("tree 0 0 0;tree 0 1 0;tree 1 9 0;tree 1 14 0;tree 0 15 0"), 4, 4, 2);
    }

    private static void bestOfKinds() {
        best("31: FIRM ones and OAKS", Checks.planted("side 3;tree 1 0 0;tree 3 1 0;tree 1 5 0"), -1, -1, -1);
        best("31: a LOW one can be", Checks.planted("side 3;tree 1 0 0;tree 3 1 0;tree 2 5 0"), 2, 2, 1);
        best("31: a SPRIG can be", Checks.planted("side 3;tree 1 0 0;tree 3 1 0;tree 5 5 0"), 2, 2, 1);
        best("31: a CHERRY can be, for nothing", Checks.planted("side 3;tree 1 0 0;tree 3 1 0;tree 4 5 0"), 2, 2, 0);
        best("31: a CHERRY, beside a three", Checks.planted("side 3;tree 1 0 0;tree 3 1 0;tree 1 2 0;tree 4 5 0"), 3, 3, 1);
        NineTrees full = new NineTrees();
        full.side(3);
        for (int t = 0; t < 9; t++) {
            full.tree(0, t, 0);
        }
        best("31: no cell", full, -1, -1, -1);
        NineTrees fewer = Checks.planted("side 3;tree 1 0 0;tree 0 1 0;tree 0 2 0");
        best("31: one is broken", fewer, 1, 3, 0);
        fewer.fell();
        fewer.fell();
        best("31: none any more", fewer, -1, -1, -1);
    }

    private static void bestBreaks() {
        // Each of the three, moved off, breaks it; along row 0 it stays.
        best("31: along the row", Checks.planted("tree 0 0 0;tree 0 1 0;tree 0 2 0"), 0, 3, 1);
        NineTrees x = Checks.planted("tree 0 5 0;tree 0 6 0;tree 0 7 0;tree 1 8 0");
        best("31: one of four, first cell", x, 0, 0, 1);
    }

    private static void moved() {
        NineTrees x = Checks.planted("tree 0 0 0;tree 0 1 0;tree 0 2 0;tree 1 9 0;tree 1 14 0;tree 4 20 0");
        due("32: along", x.moved(0, 3), 1);
        due("32: to both", x.moved(0, 4), 2);
        due("32: off", x.moved(2, 22), 0);
        due("32: a cherry", x.moved(5, 4), 1);
        due("32: nothing is changed", x.treeAt(0) * 10 + x.treeAt(5), -1);
        due("32: threes as they were", x.threes(), 1);
        due("32: FIRM", x.moved(3, 8), -5);
        due("32: taken", x.moved(0, 1), -5);
        due("32: its own cell", x.moved(0, 0), -5);
        due("32: no tree", x.moved(6, 3), -2);
        due("32: no tree", x.moved(-1, 3), -2);
        due("32: no cell", x.moved(0, 25), -2);
        due("32: bad before stuck", x.moved(3, -1), -2);
        due("32: refusals", x.status(12) * 10 + x.status(15), 43);
    }

    private static void may() {
        NineTrees x = new NineTrees();
        due("33: no trees", x.may(), 33554431);
        x.side(8);
        due("33: all 64", x.may(), -1L);
        due("33: side 3", Checks.planted("side 3;tree 0 0 0;tree 0 4 0").may(), 238);
        due("33: a cherry makes no row", Checks.planted("side 3;tree 0 0 0;tree 4 4 0").may(), 494);
        due("33: beyond an empty cell", Checks.planted("side 3;tree 0 0 0;tree 0 8 0").may(), 238);
        due("33: knights", Checks.planted("side 4;tree 0 0 0;tree 0 6 0").may(), 0xffff & ~1 & ~64);
        due("33: knights on 5", Checks.planted("tree 0 0 0;tree 0 7 0").may(), 0x1ffffff & ~1 & ~128 & ~(1 << 14));
        NineTrees column = Checks.planted("side 8;tree 0 0 0;tree 0 8 0");
        due("33: a whole column of 8", column.may(), ~0x0101010101010101L);
        column.move(0, 1);
        column.move(1, 2);
        due("33: a whole row of 8", column.may(), ~0xffL);
        column.move(0, 63);
        column.move(1, 62);
        due("33: the last row of 8", column.may(), ~(0xffL << 56));
        column.move(0, 7);
        column.move(1, 15);
        due("33: the last column of 8", column.may(), ~0x8080808080808080L);
        due("33: the last cell of 64", Checks.planted("side 8;tree 0 0 0;tree 0 9 0").may(), ~0x8040201008040201L);
        due("33: twelve trees", Checks.planted("side 4;tree 0 0 0;tree 0 1 0;tree 4 2 0;tree 4 3 0;tree 4 4 0;tree 4 5 0;"
            + "tree 4 6 0;tree 4 7 0;tree 4 8 0;tree 4 9 0;tree 4 10 0;tree 4 11 0").may(), 0xf000);
    }

    private static void most() {
        NineTrees x = new NineTrees();
        for (int m = 1; m <= 5; m++) {
            due("34: most " + m, x.most(m), byTrying(m, 0, new int[25], 0));
        }
        due("34: bad", x.most(0), -2);
        due("34: bad", x.most(6), -2);
        due("34: bad", x.most(-1), -2);
        due("34: refusals", x.status(12), 3);
    }

    private static int byTrying(int m, int cell, int[] chosen, int many) {
        if (cell == m * m) {
            return many;
        }
        int most = byTrying(m, cell + 1, chosen, many);
        for (int i = 0; i < many; i++) {
            for (int j = 0; j < i; j++) {
                int down = chosen[i] / m - chosen[j] / m;
                int along = chosen[i] % m - chosen[j] % m;
                if (down * (cell % m - chosen[j] % m) == along * (cell / m - chosen[j] / m)) {
                    return most;
                }
            }
        }
        chosen[many] = cell;
        return Math.max(most, byTrying(m, cell + 1, chosen, many + 1));
    }

    private static void wishOf() {
        NineTrees x = Checks.planted("tree 0 0 0;tree 0 1 0;tree 0 2 0;tree 0 9 0;wish 3 0 1;wish 0 1 2 3");
        due("39: first", x.wishOf(0), 11);
        due("39: second", x.wishOf(1), 15);
        due("39: bad", x.wishOf(2), -2);
        due("39: bad", x.wishOf(-1), -2);
        due("39: refusals", x.status(12), 2);
    }

    private static void met() {
        NineTrees x = Checks.planted("tree 0 0 0;tree 0 1 0;tree 0 2 0;tree 0 9 0;tree 4 3 0;"
            + "wish 3 0 1;wish 0 1 2;wish 0 1 4;wish 2 1 0");
        due("40: not met", x.met(0), 0);
        due("40: met", x.met(1), 1);
        due("40: a cherry", x.met(2), 0);
        due("40: how many", x.met(-1), 2);
        due("40: bad", x.met(4), -2);
        due("40: bad", x.met(-2), -2);
        due("40: refusals", x.status(12), 2);
        x.move(3, 4);
        due("40: met by a move", x.met(0), 1);
        due("40: how many then", x.met(NineTrees.NONE), 3);
        due("40: no wishes", new NineTrees().met(-1), 0);
        due("40: no wishes", new NineTrees().met(0), -2);
    }

    private static void bestFor() {
        NineTrees x = Checks.planted("tree 0 0 0;tree 0 1 0;tree 0 7 0;tree 0 13 0;wish 0 1 2;wish 1 2 3");
        due("41: met as it is", x.met(-1), 1);
        bestFor("41: both", x, 0, 19, 2);
        due("41: bad", x.bestFor(3), -2);
        due("41: bad", x.bestFor(-1), -2);
        due("41: refusals", x.status(12), 2);
        NineTrees none = new NineTrees();
        bestFor("41: no trees", none, -1, -1, -1);
        due("41: NONE isn't refused", none.status(12), 0);
        bestFor("41: none can be moved", Checks.planted("tree 1 0 0;tree 3 1 0;tree 1 9 0;wish 0 1 2"), -1, -1, -1);
        NineTrees fewer = Checks.planted("tree 1 0 0;tree 0 1 0");
        bestFor("41: no wishes", fewer, 1, 2, 0);
        fewer.fell();
        bestFor("41: none any more", fewer, -1, -1, -1);
    }

    private static void bestForOfSeveral() {
        bestFor("41: the first", Checks.planted("tree 0 0 0;tree 0 6 0;tree 0 9 0;wish 0 1 2"), 0, 5, 1);
        bestFor("41: not the firm one", Checks.planted("tree 1 0 0;tree 0 6 0;tree 0 9 0;wish 0 1 2"), 2, 12, 1);
        bestFor("41: a cherry never", Checks.planted("tree 1 0 0;tree 1 6 0;tree 4 9 0;wish 0 1 2"), 2, 1, 0);
        // A move of tree 0 would break the wish, one of tree 3 would not.
        bestFor("41: none broken", Checks.planted("side 3;tree 0 0 0;tree 0 1 0;tree 0 2 0;tree 0 5 0;wish 0 1 2"), 3, 3, 1);
        bestFor("41: wishes of four", Checks.planted("tree 0 0 0;tree 0 1 0;tree 0 2 0;tree 0 9 0;wish 0 1 2 3"), 3, 3, 1);
        bestFor("41: two are off", Checks.planted("tree 0 0 0;tree 0 1 0;tree 0 12 0;tree 0 9 0;wish 0 1 2 3"), 0, 2, 0);
    }
}
