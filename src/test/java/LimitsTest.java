/** The fullest garden there can be, and gardens whose trees and wishes are gone again. */
public final class LimitsTest {
    private static final Checks CHECKS = new Checks("LimitsTest");
    /** Twelve cells of eight times eight, two in each row, no three in line. */
    private static final int[] ROWLESS = new int[12];

    public static void main(String[] args) {
        CHECKS.holds("there are twelve cells of which no three are in line", find(0, 0));
        fullRows();
        fullShapes();
        fullMoves();
        felled();
        gone();
        strangeNumbers();
        CHECKS.finish();
    }

    private static void due(String call, long got, long want) {
        CHECKS.due(call, got, want);
    }

    private static boolean find(int cell, int many) {
        if (many == 12) {
            return true;
        }
        for (int c = cell; c < 64; c++) {
            boolean fits = true;
            for (int i = 0; i < many && fits; i++) {
                for (int j = 0; j < i && fits; j++) {
                    fits = !isLine(ROWLESS[i], ROWLESS[j], c);
                }
            }
            ROWLESS[many] = c;
            if (fits && find(c + 1, many + 1)) {
                return true;
            }
        }
        return false;
    }

    private static boolean isLine(int p, int q, int s) {
        return (q / 8 - p / 8) * (s % 8 - p % 8) == (q % 8 - p % 8) * (s / 8 - p / 8);
    }

    private static NineTrees full() {
        NineTrees x = new NineTrees();
        x.side(8);
        for (int t = 0; t < 12; t++) {
            x.tree(0, ROWLESS[t], t % 10);
        }
        for (int i = 0; i < 8; i++) {
            x.wish(7 << i);
        }
        return x;
    }

    private static void fullRows() {
        NineTrees x = full();
        due("66 rows", x.status(2), 66);
        due("66 rows of two", x.many(2), 66);
        due("no threes", x.threes(), 0);
        due("the first row", x.rowAt(2, 0), 3);
        due("the second row", x.rowAt(2, 1), 5);
        due("the last row", x.rowAt(2, 65), 3 << 10);
        due("no row more", x.rowAt(2, 66), -5);
        due("the longest", x.longest(), 3);
        due("all alone", x.alone(), 4095);
        due("in eleven rows", x.treeOf(11, 3), 11);
        due("no wish is met", x.met(-1), 0);
        due("the last wish", x.wishOf(7), 7 << 7);
        due("least missed", x.least(), 0);
        due("no three of all", x.inLine(4095), 0);
        CHECKS.holds("there is a gap", x.gap(0) > 0 && x.gap(1) >= 0);
        due("the last is in no wish", x.fell(), 11);
        due("nor is the one ahead", x.fell(), 10);
        due("but the next one is", x.fell(), -5);
    }

    private static void fullShapes() {
        NineTrees x = full();
        long may = 0;
        long free = 0;
        for (int c = 0; c < 64; c++) {
            boolean isFree = x.treeAt(c) == -1;
            boolean isOff = isFree;
            for (int i = 0; i < 12; i++) {
                for (int j = 0; j < i; j++) {
                    isOff &= !isLine(ROWLESS[i], ROWLESS[j], c);
                }
            }
            free |= isFree ? 1L << c : 0;
            may |= isOff ? 1L << c : 0;
            due("no threes point at " + c, x.pointed(c), 0);
            due("seen from " + c, x.view(c) | (isFree ? 0 : 1 << x.treeAt(c)), isSeenWhole(c) ? 4095 : x.view(c));
        }
        due("may", x.may(), may);
        long seen = 0;
        for (int c = 0; c < 64; c++) {
            seen |= isSeenWhole(c) ? 1L << c : 0;
        }
        due("overlooks", x.overlooks(), seen & free);
        due("behind in a row of two", x.behind(11, ROWLESS[0]), -1);
        int greatest = 0;
        for (int p : ROWLESS) {
            for (int q : ROWLESS) {
                for (int s : ROWLESS) {
                    greatest = Math.max(greatest,
                        (q / 8 - p / 8) * (s % 8 - p % 8) - (q % 8 - p % 8) * (s / 8 - p / 8));
                }
            }
        }
        due("largest", x.largest(), greatest);
        int corners = x.corners();
        int squares = x.squares();
        x.turn();
        x.mirror();
        due("corners of the image", x.corners(), corners);
        due("squares of the image", x.squares(), squares);
        CHECKS.holds("there are corners", Integer.bitCount(corners) >= 3);
        CHECKS.holds("nearest, middle and alike answer", x.nearest() > 0 && x.middle() >= 0 && x.alike() >= 1);
        due("paths along rows", x.paths(0) + x.paths(1), 8 - taken(8, 0) + 8 - taken(8, 1));
    }

    private static int taken(int side, int slope) {
        int bits = 0;
        for (int c : ROWLESS) {
            bits |= 1 << (slope == 0 ? c / side : c % side);
        }
        return Integer.bitCount(bits);
    }

    /** Whether no tree is between a cell and another tree. */
    private static boolean isSeenWhole(int cell) {
        for (int far : ROWLESS) {
            for (int near : ROWLESS) {
                int down = (far / 8 - near / 8) * (cell / 8 - near / 8);
                int along = (far % 8 - near % 8) * (cell % 8 - near % 8);
                if (isLine(cell, near, far) && down + along < 0) {
                    return false;
                }
            }
        }
        return true;
    }

    private static void fullMoves() {
        NineTrees x = full();
        int tree = x.best(0);
        int cell = x.best(1);
        int most = x.best(2);
        due("by the best move", x.moved(tree, cell), most);
        for (int t = 0; t < 12; t++) {
            // An object is promised for 512 calls alone.
            NineTrees other = full();
            for (int c = 0; c < 64; c++) {
                if (other.treeAt(c) == -1) {
                    int by = other.moved(t, c);
                    CHECKS.holds("no move is better", by < most || by == most && (t > tree || t == tree && c >= cell));
                }
            }
        }
        due("nothing has changed", x.threes(), 0);
        int wishes = x.bestFor(2);
        int wishTree = x.bestFor(0);
        int wishCell = x.bestFor(1);
        due("improve", x.improve(), most);
        due("improved", x.treeAt(cell), tree);
        NineTrees y = full();
        y.move(wishTree, wishCell);
        due("by the best move for wishes", y.met(-1), wishes);
        CHECKS.holds("some wish can be met", wishes > 0);
    }

    private static void felled() {
        NineTrees x = Checks.planted("tree 0 0 0;tree 0 1 0;tree 0 7 0;tree 1 2 0;tree 4 6 0;tree 0 5 0;fell;fell;fell");
        due("felled: rows", x.status(2), 3);
        due("felled: threes", x.threes(), 0);
        due("felled: cherries", x.status(3), 0);
        due("felled: firm", x.status(4), 0);
        due("felled: turn", x.turn(), 0);
        x.turn();
        x.turn();
        due("felled: home again", x.turn() + x.treeAt(7), 2);
        due("felled: mirror twice", x.mirror() + x.mirror() + x.treeAt(1), 1);
        due("felled: alone", x.alone(), 7);
        due("felled: squares", x.squares(), 0);
        due("felled: largest", x.largest(), 1);
        due("felled: corners", x.corners(), 7);
        due("felled: nearest", x.nearest(), 1);
        due("felled: middle", x.middle(), 1);
        due("felled: paths", x.paths(0) * 1000 + x.paths(1) * 100 + x.paths(2) * 10 + x.paths(3), 3276);
        due("felled: alike", x.alike(), 1);
        due("felled: view", x.view(2), 6);
        due("felled: its cell", x.treeAt(2), -1);
        due("felled: gap", x.gap(0) * 10 + x.gap(1), 50 + 1);
        due("felled: missed", x.missed(3), -2);
        due("felled: not in a wish", x.wish(11), -2);
    }

    private static void gone() {
        NineTrees x = Checks.planted("tree 0 0 0;tree 0 1 0;tree 0 2 0;wish 0 1 2");
        x.show(0, 0);
        x.content();
        due("gone: met", x.met(-1), 0);
        due("gone: firm ones in it", x.bestFor(2), 0);
        Checks.garden(x, "fell;fell;fell;tree 3 4 9;tree 0 9 0;tree 0 14 0;wish 0 1 2");
        due("gone: its shelf", x.holds(0), -1);
        x.show(0, 0);
        due("gone: an oak's wishes", x.says(0, 1), 1);
        x.content();
        due("gone: an oak's wishes", x.says(0, 1), 0);
        due("gone: it can be felled", x.fell(), 2);
    }

    private static void strangeNumbers() {
        NineTrees x = full();
        x.row(0, 3, 40);
        int[] strange = {Integer.MIN_VALUE, Integer.MIN_VALUE + 1, -65, -2, 64, 65, 4096, Integer.MAX_VALUE - 1, Integer.MAX_VALUE};
        int calls = 0;
        for (int n : strange) {
            int[] got = {x.row(n, 0, 0), x.row(0, n, 0), x.row(0, 0, n), x.set(n, 0, 0), x.set(0, n, 0), x.copy(n, 0, 0, 0, 0),
                x.copy(0, n, 0, 0, 0), x.copy(0, 0, n, 0, 0), x.copy(0, 0, 0, n, 0), x.copy(0, 0, 0, 0, n), x.show(n, 0),
                x.show(0, n), x.says(n, 0), x.says(0, n), x.side(n), x.tree(n, 0, 0), x.tree(0, n, 0), x.tree(0, 0, n),
                x.wish(n), x.move(n, 0), x.move(0, n), x.treeOf(n, 0), x.treeOf(0, n), x.treeAt(n), x.many(n), x.rowAt(n, 0),
                x.through(n, 0), x.through(0, n), x.inLine(n), x.judge(n, 0), x.judge(0, n), x.gap(n), x.missed(n), x.best(n),
                x.moved(n, 0), x.moved(0, n), x.most(n), x.view(n), x.behind(n, 0), x.behind(0, n), x.paths(n), x.wishOf(n),
                x.met(n), x.bestFor(n), x.pointed(n), x.plant(n)};
            for (int i = 0; i < got.length; i++) {
                due("strange " + n + ", call " + i, got[i], -2);
            }
            calls += got.length;
            due("strange " + n + ": element", x.element(n, 0) + x.element(0, n), 0);
            due("strange " + n + ": holds", x.holds(n), -1);
            due("strange " + n + ": status", x.status(n), -1);
        }
        due("strange numbers refused", x.status(12), calls);
        due("strange letters", x.feed(Integer.MIN_VALUE) + x.feed(Integer.MAX_VALUE), -4);
    }
}
