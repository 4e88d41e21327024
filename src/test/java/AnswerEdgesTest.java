/**
 * What comes of the garden, at the ends: promises 18 to 48. None, one and just enough trees, all cells taken, the first
 * and the last of all numbers; none of these calls changes anything, and none is refused.
 */
public final class AnswerEdgesTest {
    private static final Checks CHECKS = new Checks("AnswerEdgesTest");
    private static final Twins TWINS = new Twins(CHECKS);
    private static final String NEW = "";
    private static final String ONE = "tree(0,7,0) ";
    private static final String TWO = "tree(0,0,0) tree(0,6,0) ";
    /** Nine trees on a side of three, tree t in cell t. */
    private static final String NINE = trees("side(3) ", 0, 1, 2, 3, 4, 5, 6, 7, 8);
    /** Twelve trees on a side of eight of which no three are in line: 66 rows of two. */
    private static final String ROWLESS = trees("side(8) ", 0, 1, 8, 9, 19, 20, 42, 47, 50, 51, 61, 62);
    /** A whole row of eight, and one off it. */
    private static final String EIGHT = trees("side(8) ", 0, 1, 2, 3, 4, 5, 6, 7, 63);

    /** Three rows of four of a side of eight. */
    private static final String GRID = trees("side(8) ", 0, 1, 2, 3, 8, 9, 10, 11, 16, 17, 18, 19);

    public static void main(String[] args) {
        treeOf();
        treeAt();
        many();
        rowAt();
        longestAndAlone();
        throughAndInLine();
        judge();
        judgePlaces();
        gap();
        missedAndLeast();
        best();
        moved();
        may();
        most();
        view();
        overlooks();
        behind();
        paths();
        wishes();
        bestFor();
        alike();
        middleAndNearest();
        largest();
        squares();
        corners();
        pointed();
        twelve();
        felled();
        againBehindAChange();
        int[] promises = new int[31];
        for (int i = 0; i < 31; i++) {
            promises[i] = 18 + i;
        }
        CHECKS.allCovered(promises);
        CHECKS.finish();
    }

    private static String trees(String head, int... cells) {
        StringBuilder told = new StringBuilder(head);
        for (int cell : cells) {
            told.append("tree(0,").append(cell).append(",0) ");
        }
        return told.toString();
    }

    private static void of(int promise, String words) {
        TWINS.of(promise, words);
    }

    private static void asks(String setup, String... told) {
        TWINS.asks(setup, told);
    }

    private static void treeOf() {
        of(18, "KIND (0), CELL (1), a (2), of the first and the last TREE");
        asks("side(8) tree(5,63,9)", "treeOf(0,0)=5", "treeOf(0,1)=63", "treeOf(0,2)=9");
        asks(ROWLESS, "treeOf(0,1)=0", "treeOf(11,1)=62", "treeOf(11,0)=0");
        of(18, "in how many ROWS it is (3), in how many THREES (4): none");
        asks(ONE, "treeOf(0,3)=0", "treeOf(0,4)=0");
        asks("tree(4,0,0) tree(0,1,0) tree(0,2,0) tree(0,3,0)", "treeOf(0,3)=0", "treeOf(0,4)=0", "treeOf(1,3)=1", "treeOf(1,4)=1");
        of(18, "in how many ROWS it is: of two, which is no THREES");
        asks(TWO, "treeOf(0,3)=1", "treeOf(1,3)=1", "treeOf(0,4)=0");
        asks(ROWLESS, "treeOf(0,3)=11", "treeOf(11,3)=11", "treeOf(11,4)=0");
        asks(NINE, "treeOf(4,3)=4", "treeOf(4,4)=4", "treeOf(8,3)=5", "treeOf(8,4)=3");
    }

    private static void treeAt() {
        of(19, "The TREE in a CELL; NONE. (NONE isn't refused.)");
        asks(NEW, "treeAt(0)=-1", "treeAt(24)=-1");
        asks(ROWLESS, "treeAt(0)=0", "treeAt(62)=11", "treeAt(63)=-1", "treeAt(2)=-1");
        asks("side(3)", "treeAt(8)=-1");
        asks(NINE, "treeAt(0)=0", "treeAt(8)=8");
    }

    private static void many() {
        of(20, "just k TREES (2 to 12)");
        asks(NEW, "many(2)=0", "many(12)=0");
        asks(ONE, "many(2)=0");
        asks(TWO, "many(2)=1", "many(3)=0", "many(12)=0");
        asks(ROWLESS, "many(2)=66", "many(3)=0", "many(12)=0");
        asks(EIGHT, "many(8)=1", "many(7)=0", "many(9)=0", "many(2)=8");
        asks(NINE, "many(2)=12", "many(3)=8", "many(4)=0");
        of(21, "ROWS of three TREES or more");
        asks(NEW, "threes()=0");
        asks(TWO, "threes()=0");
        asks(TWO + "tree(0,12,0)", "threes()=1");
        asks(TWO + "tree(0,13,0)", "threes()=0");
        asks(TWO + "tree(0,12,0) tree(0,18,0) tree(0,24,0)", "threes()=1");
        asks(TWO + "tree(4,12,0)", "threes()=0");
        asks(EIGHT, "threes()=1");
        asks(ROWLESS, "threes()=0");
        of(21, "their places in the plane are on one straight line: none goes on at the other edge");
        asks(trees("", 3, 4, 5), "threes()=0");
        asks(trees("side(3) ", 1, 5, 6), "threes()=0");
        asks(trees("side(8) ", 7, 8, 9), "threes()=0");
        asks(trees("side(8) ", 0, 27, 63), "threes()=1");
    }

    private static void rowAt() {
        of(22, "The i-th ROW, the first and the last");
        asks(TWO, "rowAt(2,0)=3");
        asks(ROWLESS, "rowAt(2,0)=3", "rowAt(2,1)=5", "rowAt(2,65)=0xc00", "rowAt(2,64)=0xa00");
        asks(NINE, "rowAt(3,0)=7", "rowAt(3,7)=448", "rowAt(2,0)=10", "rowAt(2,11)=264");
        asks(EIGHT, "rowAt(8,0)=255", "rowAt(2,0)=257", "rowAt(2,7)=384");
        of(22, "by these bits, the least first");
        asks(trees("", 0, 1, 7, 3), "rowAt(2,0)=5", "rowAt(2,1)=6", "rowAt(2,2)=12", "rowAt(3,0)=11");
        asks(trees("", 0, 6, 1, 2, 12), "rowAt(3,0)=13", "rowAt(3,1)=19", "longest()=13");
    }

    private static void longestAndAlone() {
        of(23, "The ROW of the most TREES (bits), of several the first");
        asks(TWO, "longest()=3");
        asks(ROWLESS, "longest()=3");
        asks(NINE, "longest()=7");
        asks(EIGHT, "longest()=255");
        asks(trees("side(8) ", 63, 62, 0, 1, 2, 3, 4, 5, 6, 7), "longest()=0x3fc");
        asks("tree(4,1,0) tree(0,0,0) tree(0,2,0)", "longest()=6");
        of(24, "TREES (bits, CHERRIES too) that are in no THREES");
        asks(NEW, "alone()=0");
        asks(ONE, "alone()=1");
        asks("tree(4,0,0)", "alone()=1");
        asks(TWO, "alone()=3");
        asks(TWO + "tree(0,12,0)", "alone()=0");
        asks(TWO + "tree(4,12,0)", "alone()=7");
        asks(ROWLESS, "alone()=0xfff");
        asks(NINE, "alone()=0");
        asks(EIGHT, "alone()=256");
    }

    private static void throughAndInLine() {
        of(25, "The ROW in which two TREES stand (bits)");
        asks(TWO, "through(0,1)=3", "through(1,0)=3");
        asks(ROWLESS, "through(0,11)=0x801", "through(11,10)=0xc00");
        asks(EIGHT, "through(0,7)=255", "through(8,7)=384");
        asks(TWO + "tree(4,12,0) tree(0,24,0)", "through(0,3)=11");
        of(26, "a set (bits) of TREES, three at least: 1, 0");
        asks(TWO + "tree(0,12,0)", "inLine(7)=1");
        asks(TWO + "tree(0,13,0)", "inLine(7)=0");
        asks(TWO + "tree(4,12,0)", "inLine(7)=0");
        asks(ROWLESS, "inLine(0xfff)=0", "inLine(0xe00)=0", "inLine(7)=0");
        asks(EIGHT, "inLine(255)=1", "inLine(0x83)=1", "inLine(0x1ff)=0");
    }

    private static String told(long... numbers) {
        StringBuilder told = new StringBuilder("row(7,3," + numbers.length + ") ");
        for (int i = 0; i < numbers.length; i++) {
            told.append("set(7,").append(i).append(',').append(numbers[i]).append(") ");
        }
        return told.toString();
    }

    private static void judge() {
        of(27, "the first n elements (0 to 12)");
        asks("row(0,0,0)", "judge(0,0)=-1");
        asks("row(0,0,40)", "judge(0,0)=-1", "judge(0,1)=0", "judge(0,12)=0");
        asks(ONE + "row(0,4,12)", "judge(0,1)=-1", "judge(0,2)=1", "judge(0,12)=1");
        asks(EIGHT + told(0, 1, 2, 3, 4, 5, 6, 7, 8, 9, 10, 11), "judge(7,8)=-1", "judge(7,9)=8", "judge(7,12)=8");
        asks(EIGHT + told(7, 6, 5, 4, 3, 2, 1, 0, 0, 0, 0, 0), "judge(7,8)=-1", "judge(7,12)=8");
        of(27, "the elements behind the first n don't count");
        asks(EIGHT + told(0, 1, 8, 9), "judge(7,2)=-1", "judge(7,3)=2", "judge(7,4)=2");
        of(27, "NONE: two are always in line");
        asks(ROWLESS + told(11, 0), "judge(7,2)=-1", "judge(7,1)=-1");
    }

    private static void judgePlaces() {
        of(27, "the first that isn't there");
        asks(EIGHT + told(9), "judge(7,1)=0");
        asks(EIGHT + told(-1), "judge(7,1)=0");
        asks(EIGHT + told(8), "judge(7,1)=-1");
        asks(EIGHT + told(0, 9, 2), "judge(7,3)=1");
        asks(EIGHT + told(0, 1, 9), "judge(7,3)=2");
        asks(EIGHT + told(1L << 32), "judge(7,1)=0");
        asks(EIGHT + told(0, (1L << 32) + 1), "judge(7,2)=1");
        asks(EIGHT + told(0, 1, Long.MIN_VALUE), "judge(7,3)=2");
        asks(EIGHT + told(0, 1, Long.MAX_VALUE), "judge(7,3)=2");
        asks(told(0), "judge(7,1)=0");
        of(27, "the first that is there already");
        asks(EIGHT + told(3, 3), "judge(7,2)=1");
        asks(EIGHT + told(3, 4, 3), "judge(7,3)=2");
        asks(EIGHT + told(3, 4, 5, 4), "judge(7,4)=3");
        of(27, "the first that is a CHERRY");
        String cherry = "tree(4,2,0) tree(0,0,0) tree(0,1,0) tree(0,3,0) ";
        asks(cherry + told(0), "judge(7,1)=0");
        asks(cherry + told(1, 0), "judge(7,2)=1");
        asks(cherry + told(1, 2, 0, 3), "judge(7,4)=2");
        asks(cherry + told(1, 2, 3), "judge(7,3)=-1");
        of(27, "the first that isn't in line with the first two");
        asks(EIGHT + told(8, 0, 1), "judge(7,3)=2");
        asks(EIGHT + told(0, 1, 2, 8, 3), "judge(7,5)=3");
        of(27, "told they are numbers (1, 0)");
        asks(TWO + "row(0,4,2) set(0,1,256)", "judge(0,2)=-1");
        asks(TWO + "row(0,0,2) set(0,1,257)", "judge(0,2)=-1");
    }

    private static void gap() {
        of(28, "the ROW (what 0), the TREE (1), of three TREES");
        asks(TWO + "tree(0,13,0)", "gap(0)=5", "gap(1)=1");
        asks(trees("side(8) ", 0, 1, 63), "gap(0)=5", "gap(1)=1");
        asks("tree(4,1,0) " + TWO + "tree(0,13,0)", "gap(0)=10", "gap(1)=2");
        of(28, "of several the first ROW, then the first TREE");
        asks(trees("", 0, 1, 5, 6), "gap(0)=6", "gap(1)=0");
        of(28, "compared as fractions: 16 by 8 is 64 by 32");
        asks(trees("", 0, 2, 10, 24), "gap(0)=6", "gap(1)=0");
        asks(trees("", 0, 24, 2, 10), "gap(0)=3", "gap(1)=2");
    }

    private static void missedAndLeast() {
        of(29, "by how many THREES there would be fewer without it");
        asks(ONE, "missed(0)=0");
        asks(TWO, "missed(0)=0", "missed(1)=0");
        asks(TWO + "tree(0,12,0)", "missed(0)=1", "missed(2)=1");
        asks(TWO + "tree(0,12,0) tree(0,18,0)", "missed(0)=0", "missed(3)=0");
        asks(TWO + "tree(4,12,0)", "missed(2)=0");
        asks(NINE, "missed(4)=4", "missed(0)=3", "missed(8)=3");
        asks(ROWLESS, "missed(0)=0", "missed(11)=0");
        of(30, "the TREE (whatever its KIND) by which that is least, of several the first");
        asks(ONE, "least()=0");
        asks("tree(4,0,0)", "least()=0");
        asks("tree(1,0,0)", "least()=0");
        asks(ROWLESS, "least()=0");
        asks(NINE, "least()=1");
        asks(TWO + "tree(0,12,0) tree(4,18,0)", "least()=3");
        asks(TWO + "tree(0,12,0) tree(1,1,0) tree(4,18,0)", "least()=3");
    }

    private static void best(String setup, int tree, int cell, int many) {
        asks(setup, "best(0)=" + tree, "best(1)=" + cell, "best(2)=" + many);
    }

    private static void best() {
        of(31, "NONE: none can be moved. (NONE isn't refused.)");
        best(NEW, -1, -1, -1);
        best("tree(1,0,0) tree(3,1,0) tree(1,2,0)", -1, -1, -1);
        best(NINE, -1, -1, -1);
        of(31, "the only TREE that can be moved, by which there are none");
        best("tree(0,0,0)", 0, 1, 0);
        best("tree(1,0,0) tree(1,1,0) tree(1,6,0) tree(4,3,0)", 3, 2, 0);
        of(31, "the only CELL to which");
        // Eight threes in all, of which 3 go through a corner, 4 through the middle, 2 through each other cell.
        best(NINE + "fell()", 1, 8, 6);
        best(NINE + "fell() move(4,8)", 1, 4, 6);
        of(31, "the last TREE and the last CELL");
        best("side(8) tree(1,61,0) tree(1,62,0) tree(0,0,0)", 2, 56, 1);
        best("side(8) tree(1,61,0) tree(1,62,0) tree(3,55,0) tree(3,47,0) tree(0,0,0)", 4, 63, 2);
        of(31, "of several the first (TREE, then CELL)");
        best(TWO, 0, 1, 0);
        best(trees("", 0, 1, 2), 0, 3, 1);
        best(ROWLESS + "9*fell()", 1, 16, 1);
    }

    private static void moved() {
        of(32, "How many THREES there would be by a move");
        asks(ONE, "moved(0,0)=0", "moved(0,24)=0");
        asks(TWO + "tree(0,13,0)", "moved(2,24)=1", "moved(2,12)=1", "moved(2,1)=0");
        asks(TWO + "tree(0,12,0)", "moved(0,24)=1", "moved(0,1)=0", "moved(2,24)=1");
        asks(TWO + "tree(4,13,0)", "moved(2,24)=0");
        asks(NINE + "fell()", "moved(0,8)=5", "moved(4,8)=4", "moved(7,8)=6");
    }

    private static void may() {
        of(33, "CELLS (bits) in which no TREE is: all of them, and none");
        asks(NEW, "may()=33554431");
        asks("side(3)", "may()=511");
        asks("side(8)", "may()=-1");
        asks(NINE, "may()=0");
        asks(NINE + "fell()", "may()=0");
        of(33, "one TREE is in no ROW");
        asks("side(3) tree(0,8,0)", "may()=255");
        of(33, "bits, the first and the last of 64, which look like -2 and aren't refused");
        asks("side(8) tree(0,0,0)", "may()=-2");
        asks("side(8) tree(0,63,0)", "may()=" + Long.MAX_VALUE);
        asks("side(8) tree(4,0,0) tree(4,2,0)", "may()=-6");
        of(33, "would be in no ROW of three or more");
        asks("side(3) tree(0,0,0) tree(0,8,0)", "may()=" + (511 & ~0x111));
        asks("side(3) tree(0,0,0) tree(4,8,0)", "may()=" + (511 & ~0x101));
        asks("side(8) tree(0,0,0) tree(0,63,0)", "may()=" + ~0x8040201008040201L);
        asks("side(8) tree(0,7,0) tree(0,14,0)", "may()=" + ~0x0102040810204080L);
        asks("side(8) tree(0,0,0) tree(0,10,0)", "may()=" + ~(1L | 1L << 10 | 1L << 20 | 1L << 30));
        asks("side(8) tree(0,0,0) tree(0,20,0)", "may()=" + ~(1L | 1L << 10 | 1L << 20 | 1L << 30));
    }

    private static void most() {
        of(34, "MOST on a side of m (1 to 5)");
        asks(NEW, "most(1)=1", "most(2)=4", "most(3)=6", "most(4)=8", "most(5)=10");
        asks(NINE, "most(1)=1", "most(5)=10");
    }

    private static void view() {
        of(35, "VIEW: TREES (bits) that are SEEN from a CELL");
        asks(NEW, "view(0)=0", "view(24)=0");
        asks("side(8) tree(0,0,0) tree(0,62,0)", "view(63)=3", "view(1)=3", "view(62)=1");
        asks(NINE, "view(4)=0x1ef", "view(0)=186", "view(8)=186");
        asks(ROWLESS, "view(0)=0xffe", "view(62)=0x7ff");
        of(35, "(A TREE in the CELL itself isn't SEEN from there.)");
        asks(ONE, "view(7)=0", "view(6)=1");
        of(35, "if no other that isn't LOW (nor SPRIG) is between");
        asks("tree(0,0,0) tree(2,1,0) tree(5,2,0) tree(4,4,0)", "view(3)=15", "view(4)=7", "view(0)=14");
        asks("tree(0,0,0) tree(4,1,0) tree(0,4,0)", "view(0)=2", "view(2)=6", "view(4)=2");
        of(35, "between, not beyond");
        asks(trees("", 2, 4), "view(3)=3", "view(0)=1", "view(4)=1");
    }

    private static void overlooks() {
        of(36, "CELLS (bits) without a TREE from which all are SEEN");
        asks(NEW, "overlooks()=33554431");
        asks("side(8)", "overlooks()=-1");
        asks("side(3)", "overlooks()=511");
        asks(NINE, "overlooks()=0");
        asks(NINE + "fell()", "overlooks()=0");
        asks("side(8) tree(0,0,0)", "overlooks()=-2");
        asks("side(8) tree(0,63,0)", "overlooks()=" + Long.MAX_VALUE);
        asks("side(8) tree(2,0,0) tree(5,2,0)", "overlooks()=-6");
        asks("side(8) tree(0,0,0) tree(0,1,0)", "overlooks()=-256");
        asks("side(3) tree(0,0,0) tree(0,4,0)", "overlooks()=" + (511 & ~0x111));
    }

    private static void behind() {
        of(37, "Which TREE is between; NONE. (NONE isn't refused.)");
        asks(ONE, "behind(0,6)=-1", "behind(0,0)=-1", "behind(0,24)=-1");
        asks(trees("", 0, 1, 2, 3, 4), "behind(0,4)=3", "behind(4,0)=1", "behind(0,1)=-1", "behind(0,2)=1", "behind(2,4)=3");
        asks(trees("side(8) ", 0, 62), "behind(0,63)=-1", "behind(1,0)=-1");
        asks(trees("side(8) ", 0, 54), "behind(0,63)=1", "behind(1,0)=-1", "behind(1,63)=-1");
        asks(NINE, "behind(0,8)=4", "behind(8,0)=4", "behind(0,2)=1", "behind(0,5)=-1");
        of(37, "not LOW (nor SPRIG)");
        asks("tree(0,0,0) tree(2,1,0) tree(5,2,0)", "behind(0,3)=-1", "behind(1,3)=-1");
        asks("tree(0,0,0) tree(1,1,0) tree(2,2,0) tree(5,3,0)", "behind(0,4)=1");
        of(37, "the nearest to the CELL");
        asks("tree(4,2,0) tree(3,1,0) tree(0,0,0)", "behind(2,4)=0", "behind(2,3)=0", "behind(2,2)=1");
    }

    private static void paths() {
        of(38, "0 along rows, 1 along columns, 2 down and right, 3 down and left");
        for (int n = 3; n <= 8; n++) {
            int slanting = 2 * n - 1;
            asks("side(" + n + ")", "paths(0)=" + n, "paths(1)=" + n, "paths(2)=" + slanting, "paths(3)=" + slanting);
            asks("side(" + n + ") tree(4," + (n * n - 1) + ",0)", "paths(0)=" + (n - 1), "paths(1)=" + (n - 1),
                "paths(2)=" + (slanting - 1), "paths(3)=" + (slanting - 1));
        }
        asks(NINE, "paths(0)=0", "paths(1)=0", "paths(2)=0", "paths(3)=0");
        of(38, "(a single corner, too)");
        asks(trees("side(3) ", 0, 1, 3, 4, 5, 6, 7, 8), "paths(0)=0", "paths(1)=0", "paths(2)=1", "paths(3)=0");
        asks(trees("side(3) ", 0, 1, 2, 3, 4, 5, 7, 8), "paths(2)=1", "paths(3)=0");
        asks(trees("side(3) ", 1, 2, 3, 4, 5, 6, 7, 8), "paths(2)=0", "paths(3)=1");
        asks(trees("side(3) ", 0, 1, 2, 3, 4, 5, 6, 7), "paths(2)=0", "paths(3)=1");
    }

    private static void wishes() {
        of(39, "A WISH (bits)");
        asks(ROWLESS + "7*wish(7) wish(0xfff)", "wishOf(0)=7", "wishOf(7)=0xfff");
        of(40, "Whether a WISH is met: 1, 0");
        asks(NINE + "wish(7) wish(11)", "met(0)=1", "met(1)=0", "met(NONE)=1");
        asks(EIGHT + "wish(255) wish(0x1ff) wish(0x83)", "met(0)=1", "met(1)=0", "met(2)=1");
        asks("tree(4,1,0) tree(0,0,0) tree(0,2,0) wish(7)", "met(0)=0", "met(NONE)=0");
        of(40, "how many are (i NONE)");
        asks(NEW, "met(NONE)=0");
        asks(NINE, "met(NONE)=0");
        asks(NINE + "8*wish(273)", "met(NONE)=8", "met(7)=1");
        asks(NINE + "8*wish(11)", "met(NONE)=0", "met(7)=0");
    }

    private static void bestFor(String setup, int tree, int cell, int many) {
        asks(setup, "bestFor(0)=" + tree, "bestFor(1)=" + cell, "bestFor(2)=" + many);
    }

    private static void bestFor() {
        of(41, "NONE. (NONE isn't refused.)");
        bestFor(NEW, -1, -1, -1);
        bestFor("tree(1,0,0) tree(3,1,0) tree(1,2,0) wish(7)", -1, -1, -1);
        bestFor(NINE + "wish(7)", -1, -1, -1);
        of(41, "likewise, without WISHES");
        bestFor(ONE, 0, 0, 0);
        bestFor("tree(1,0,0) tree(4,24,0)", 1, 1, 0);
        of(41, "so many: all eight");
        bestFor("tree(1,0,0) tree(1,6,0) tree(0,13,0) 8*wish(7)", 2, 12, 8);
        bestFor("tree(1,0,0) tree(1,6,0) tree(4,13,0) 8*wish(7)", 2, 1, 0);
        of(41, "that by which most WISHES are met: fewer than there are now, if each move breaks one");
        bestFor("side(3) tree(1,0,0) tree(0,1,0) tree(1,2,0) wish(7)", 1, 3, 0);
        bestFor("side(3) tree(1,0,0) tree(0,1,0) tree(1,2,0) tree(0,8,0) wish(7)", 3, 3, 1);
    }

    private static void alike() {
        of(42, "of the eight turnings and mirrorings how many: 8 to 1");
        asks(NEW, "alike()=8");
        asks(NINE, "alike()=8");
        asks("tree(4,12,0)", "alike()=8");
        asks(trees("side(8) ", 0, 7, 56, 63), "alike()=8");
        asks(trees("side(8) ", 0, 63), "alike()=4");
        asks(trees("side(8) ", 0, 7), "alike()=2");
        asks(trees("side(8) ", 0), "alike()=2");
        asks(trees("side(8) ", 1), "alike()=1");
        asks(trees("side(4) ", 1, 7, 14, 8), "alike()=4");
        asks(trees("side(4) ", 1, 14), "alike()=2");
        asks(trees("side(3) ", 1), "alike()=2");
        asks(trees("side(3) ", 1, 7), "alike()=4");
        of(42, "the CELLS in which TREES stand, whatever their KINDS");
        asks("side(3) tree(0,1,0) tree(4,7,9)", "alike()=4");
    }

    private static void middleAndNearest() {
        of(43, "the CELL (any) with the least sum of distances, of several the first");
        asks("side(8) tree(0,63,0)", "middle()=63");
        asks("side(8) tree(4,0,0)", "middle()=0");
        asks("side(8) tree(4,1,0)", "middle()=1");
        asks("side(8) tree(0,63,0) tree(0,0,0)", "middle()=0");
        asks("side(8) tree(0,63,0) tree(0,7,0) tree(0,56,0)", "middle()=63");
        asks("side(8) tree(0,63,0) tree(0,62,0)", "middle()=62");
        asks(NINE, "middle()=4");
        asks("tree(0,1,0) tree(0,5,0) tree(0,7,0) tree(0,11,0)", "middle()=6");
        of(44, "The two TREES (100 times the one and the other, the one below), of several the first");
        asks("side(8) tree(0,63,0) tree(4,0,0)", "nearest()=1");
        asks(NINE, "nearest()=1");
        asks(trees("side(8) ", 0, 2, 4, 6, 16, 18, 20, 22, 32, 34, 63, 62), "nearest()=1011");
        asks(trees("side(8) ", 63, 0, 7, 56, 55), "nearest()=4");
        asks(trees("side(8) ", 0, 16, 63, 61), "nearest()=1");
        of(44, "rows and columns apart");
        asks(trees("", 0, 12, 15), "nearest()=2");
    }

    private static void largest() {
        of(45, "Twice the greatest area of three TREES (any KIND)");
        asks(trees("side(8) ", 0, 7, 63), "largest()=49");
        asks(trees("side(8) ", 63, 7, 0), "largest()=49");
        asks("side(8) tree(4,0,0) tree(2,7,0) tree(5,56,0) tree(4,63,0)", "largest()=49");
        asks(trees("", 0, 1, 5), "largest()=1");
        asks(trees("", 0, 1, 24), "largest()=4");
        of(45, "0: all in line, or fewer");
        asks(NEW, "largest()=0");
        asks(ONE, "largest()=0");
        asks(TWO, "largest()=0");
        asks(TWO + "tree(0,12,0)", "largest()=0");
        asks(TWO + "tree(4,12,0) tree(0,18,0) tree(0,24,0)", "largest()=0");
    }

    private static void squares() {
        of(46, "sets of four TREES (any KIND): fewer are none");
        asks(NEW, "squares()=0");
        asks(trees("", 0, 1, 5), "squares()=0");
        of(46, "the smallest and the greatest");
        asks(trees("", 0, 1, 5, 6), "squares()=1");
        asks(trees("side(8) ", 63, 0, 56, 7), "squares()=1");
        asks("side(8) tree(4,63,0) tree(2,0,0) tree(1,56,0) tree(5,7,0)", "squares()=1");
        asks(NINE, "squares()=6");
        of(46, "(askew ones, too)");
        asks(trees("side(3) ", 1, 3, 5, 7), "squares()=1");
        asks(trees("side(8) ", 1, 15, 62, 48), "squares()=1");
        asks(trees("side(8) ", 6, 8, 55, 57), "squares()=1");
        of(46, "not a rectangle, a rhombus, nor four in line");
        asks(trees("", 0, 1, 10, 11), "squares()=0");
        asks(trees("", 2, 11, 13, 22), "squares()=0");
        asks(trees("", 0, 6, 12, 18), "squares()=0");
        asks(trees("side(3) ", 2, 3, 5, 6), "squares()=0");
    }

    private static void corners() {
        of(47, "with fewer than three all are");
        asks(NEW, "corners()=0");
        asks(ONE, "corners()=1");
        asks(TWO, "corners()=3");
        of(47, "neither between two others, in line with them");
        asks(TWO + "tree(0,12,0)", "corners()=5");
        asks(trees("", 12, 0, 24, 18, 6), "corners()=6");
        asks("tree(4,0,0) tree(4,6,0) tree(4,12,0)", "corners()=5");
        of(47, "nor in a triangle of three others that aren't in line");
        asks(trees("", 0, 4, 22, 12), "corners()=7");
        asks(trees("", 12, 0, 4, 22), "corners()=14");
        asks(trees("", 0, 4, 12, 22), "corners()=11");
        asks("tree(4,0,0) tree(2,4,0) tree(5,22,0) tree(1,12,0)", "corners()=7");
        of(47, "or at its edge");
        asks(trees("", 0, 4, 20, 12), "corners()=7");
        asks(trees("", 0, 4, 22, 3), "corners()=7");
        of(47, "three others in line are no triangle");
        asks(trees("", 0, 6, 12, 1), "corners()=13");
        asks(NINE, "corners()=325");
        asks(trees("side(8) ", 0, 7, 56, 63), "corners()=15");
    }

    private static void pointed() {
        of(48, "With how many THREES a CELL is in line: none");
        asks(NEW, "pointed(0)=0", "pointed(24)=0");
        asks(TWO, "pointed(0)=0", "pointed(12)=0");
        asks(TWO + "tree(4,12,0)", "pointed(12)=0", "pointed(24)=0");
        of(48, "(in their CELLS and beyond)");
        asks(trees("side(8) ", 0, 9, 18), "pointed(0)=1", "pointed(18)=1", "pointed(27)=1", "pointed(63)=1", "pointed(1)=0", "pointed(62)=0");
        asks(trees("side(8) ", 63, 54, 45), "pointed(0)=1", "pointed(36)=1", "pointed(63)=1", "pointed(7)=0");
        asks(trees("side(8) ", 9, 27, 45), "pointed(0)=1", "pointed(18)=1", "pointed(63)=1");
        asks(trees("side(8) ", 0, 20, 30), "pointed(10)=1", "pointed(0)=1", "pointed(31)=0", "pointed(40)=0");
        asks(trees("side(8) ", 56, 48, 8), "pointed(0)=1", "pointed(24)=1", "pointed(1)=0");
        of(48, "a ROW of more is one");
        asks(EIGHT, "pointed(0)=1", "pointed(7)=1", "pointed(63)=0", "pointed(8)=0");
        asks(NINE, "pointed(4)=4", "pointed(0)=3", "pointed(8)=3", "pointed(1)=2");
    }

    private static void twelve() {
        of(36, "of twelve TREES: from the four CELLS within");
        asks(trees("side(4) ", 0, 1, 2, 3, 4, 7, 8, 11, 12, 13, 14, 15), "overlooks()=" + 0x660);
        of(45, "of twelve TREES");
        asks(GRID, "largest()=6", "threes()=11");
        asks(ROWLESS, "largest()=32");
        of(46, "of twelve TREES");
        asks(GRID, "squares()=10");
        asks(ROWLESS, "squares()=1");
        of(47, "of twelve TREES");
        asks(GRID, "corners()=2313");
        asks(ROWLESS, "corners()=3495");
        of(42, "of twelve TREES");
        asks(trees("side(4) ", 0, 1, 2, 3, 4, 7, 8, 11, 12, 13, 14, 15), "alike()=8");
        of(35, "of twelve TREES");
        asks(GRID, "view(0)=" + (1 << 1 | 1 << 4 | 1 << 5 | 1 << 6 | 1 << 7 | 1 << 9 | 1 << 11), "view(63)=" + (0xfff & ~0x21));
        of(32, "of twelve TREES");
        // The last cell is in line with cells 0 and 9, and with 61 and 62.
        asks(ROWLESS, "moved(11,63)=1", "moved(0,63)=1", "moved(4,63)=2");
    }

    private static void felled() {
        of(45, "a TREE that was felled counts no more");
        asks(trees("side(8) ", 0, 1, 8, 63) + "fell()", "largest()=1");
        of(46, "a TREE that was felled counts no more");
        asks(trees("side(8) ", 0, 1, 8, 9) + "fell()", "squares()=0");
        of(47, "a TREE that was felled counts no more");
        asks(trees("side(8) ", 0, 7, 9, 63) + "fell()", "corners()=7");
        of(35, "a TREE that was felled counts no more");
        asks(trees("", 0, 4, 2) + "fell()", "view(0)=2", "overlooks()=" + (0x1ffffff & ~0x11), "behind(0,4)=-1", "paths(1)=3", "alike()=2",
            "middle()=0", "nearest()=1", "treeAt(2)=-1");
    }

    /** Rows, lines and moves that an earlier call has found must not be found again when they are gone. */
    private static void againBehindAChange() {
        String three = TWO + "tree(0,13,0) ";
        String cherry = " 'fell;tree 4 7 0' garden()";
        of(33, "of the garden as it is now");
        TWINS.runs("side(3) tree(0,0,0) tree(0,8,0)", "may()=" + (511 & ~0x111), "fell()=1", "may()=510", "fell()=0", "may()=511");
        long line = 1 | 1 << 6 | 1 << 12 | 1 << 18 | 1 << 24;
        asks(TWO + "tree(0,7,0) may()" + cherry, "may()=" + (0x1ffffff & ~(line | 1 << 7)));
        of(48, "of the garden as it is now");
        TWINS.runs(TWO + "tree(0,12,0)", "pointed(0)=1", "fell()=2", "pointed(0)=0", "pointed(24)=0");
        asks(trees("", 0, 6, 1, 2, 12) + "pointed(0) fell()", "pointed(0)=1", "pointed(4)=1", "pointed(24)=0");
        of(31, "of the garden as it is now");
        TWINS.runs(three, "best(2)=1", "fell()=2", "best(2)=0", "fell()=1", "fell()=0", "best(0)=-1", "best(1)=-1", "best(2)=-1");
        asks(TWO + "tree(0,7,0) best(0)" + cherry, "best(2)=0", "best(0)=0", "best(1)=1", "moved(1,14)=0");
        of(32, "of the garden as it is now");
        TWINS.runs(three, "moved(2,12)=1", "moved(2,1)=0", "moved(0,20)=0", "moved(2,24)=1");
        of(41, "of the garden as it is now");
        TWINS.runs(three + "wish(7)", "best(2)=1", "bestFor(2)=1", "content()=1", "bestFor(0)=0", "bestFor(1)=1", "bestFor(2)=0",
            "fell()=2", "fell()=1", "fell()=0", "bestFor(0)=-1", "bestFor(1)=-1", "bestFor(2)=-1");
        TWINS.runs("tree(1,0,0) tree(1,6,0) tree(0,12,0) tree(4,13,0) wish(7)", "bestFor(0)=2", "bestFor(1)=18", "bestFor(2)=1", "threes()=1",
            "content()=1", "bestFor(2)=0", "bestFor(0)=2", "bestFor(1)=1");
        of(20, "of the garden as it is now");
        TWINS.runs(NINE, "many(2)=12", "status(2)=20", "fell()=8", "threes()=5", "many(3)=5", "longest()=7", "alone()=0", "status(2)=" + 18);
        TWINS.runs(three, "longest()=3", "status(2)=3", "fell()=2", "status(2)=1", "rowAt(2,0)=3", "many(2)=1");
    }
}
