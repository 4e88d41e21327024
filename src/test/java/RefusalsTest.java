/**
 * Every refusal that the document names: the first number that may not be at both ends, the order where two fit,
 * and, by a twin on which the call wasn't made, that nothing changes but how many refusals there were.
 */
public final class RefusalsTest {
    private static final Checks CHECKS = new Checks("RefusalsTest");
    private static final Twins TWINS = new Twins(CHECKS);
    private static final String NEW = "";
    /**
     * Side 6 (cells 0 to 35), eight trees: TREE, FIRM, LOW, OAK, CHERRY, SPRIG, TREE, TREE; wishes 0 and 1; a kept image
     * that is not what there is now; a garden on the tape. Shelves: 0 three bytes, 1 five longs, 2 no bytes,
     * 3 tree 0, 4 the cherry, 5 NOTHING, 6 forty bytes, 7 NOTHING.
     */
    private static final String RICH = "side(6) tree(0,0,1) tree(1,1,2) tree(2,8,3) tree(3,15,4) tree(4,22,5) tree(5,29,6) "
        + "tree(0,35,7) wish(7) seed(77) image() wish(69) move(0,30) tree(0,2,0) row(0,0,3) set(0,0,5) set(0,2,-7) "
        + "row(1,3,5) set(1,4,LMAX) row(2,0,0) show(3,0) show(4,4) row(6,0,40) set(6,39,1) 'tree 0 33 0'";
    /** Side 8, twelve trees (5 t is tree t's cell), eight wishes, the last tree in none; every shelf is taken. */
    private static final String FULL = full();
    private static final String THREE = "tree(0,0,0) tree(0,6,0) tree(0,13,0) 'fell' image() ";

    public static void main(String[] args) {
        rowsOfNumbers();
        copy();
        trees();
        ground();
        moves();
        tape();
        rows();
        sets();
        judge();
        comes();
        sight();
        wishes();
        shapes();
        truth();
        CHECKS.allCovered(2, 3, 4, 7, 8, 9, 10, 11, 13, 14, 15, 17, 18, 19, 20, 22, 23, 25, 26, 27, 28, 29, 30, 31, 32, 34,
            35, 37, 38, 39, 40, 41, 43, 44, 48, 52, 55);
        CHECKS.finish();
    }

    private static String full() {
        StringBuilder told = new StringBuilder("side(8) ");
        for (int t = 0; t < 12; t++) {
            told.append("tree(").append(t % 6).append(',').append(5 * t).append(',').append(t % 10).append(") ");
        }
        return told + "8*wish(0x407) image() row(0,1,2) row(1,2,2) row(2,3,1) row(3,4,1) show(4,0) show(5,11) show(6,5) show(7,3)";
    }

    private static void rowsOfNumbers() {
        TWINS.of(2, "row: BAD");
        TWINS.bad(RICH, "row(-1,0,1)", "row(8,0,1)", "row(MIN,0,1)", "row(MAX,0,1)");
        TWINS.bad(RICH, "row(0,-1,1)", "row(0,5,1)", "row(0,MIN,1)", "row(0,MAX,1)");
        TWINS.bad(RICH, "row(0,0,-1)", "row(0,0,41)", "row(0,0,MIN)", "row(0,0,MAX)");
        TWINS.bad(NEW, "row(-1,0,1)", "row(8,4,40)", "row(7,5,40)", "row(7,4,41)");
        TWINS.bad(FULL, "row(8,0,0)", "row(4,5,0)", "row(4,0,41)");

        TWINS.of(3, "set: BAD SHELF");
        TWINS.bad(RICH, "set(-1,0,1)", "set(8,0,1)", "set(MIN,0,1)", "set(MAX,0,1)", "set(-1,-1,1)", "set(8,41,1)");
        TWINS.bad(NEW, "set(-1,0,1)", "set(8,0,1)");
        TWINS.of(3, "set: OTHER, ahead of BAD i");
        TWINS.other(RICH, "set(3,0,1)", "set(4,-1,1)", "set(3,40,1)", "set(3,MAX,1)");
        TWINS.of(3, "set: NOTHING, ahead of BAD i");
        TWINS.nothing(RICH, "set(5,0,1)", "set(7,-1,1)", "set(5,40,1)");
        TWINS.nothing(NEW, "set(0,0,1)", "set(7,0,1)");
        TWINS.of(3, "set: BAD i");
        TWINS.bad(RICH, "set(0,-1,1)", "set(0,3,1)", "set(0,MIN,1)", "set(0,MAX,1)", "set(1,5,1)", "set(6,40,1)");
        TWINS.bad(RICH, "set(2,0,1)", "set(2,-1,1)");
    }

    private static void copy() {
        TWINS.of(4, "copy: BAD SHELVES, ahead of all others");
        TWINS.bad(RICH, "copy(-1,0,0,0,1)", "copy(8,0,0,0,1)", "copy(0,-1,0,0,1)", "copy(0,8,0,0,1)", "copy(MIN,MAX,0,0,0)");
        TWINS.bad(RICH, "copy(8,3,0,0,1)", "copy(3,8,0,0,1)", "copy(8,5,0,0,1)", "copy(5,8,0,0,1)", "copy(-1,5,-1,-1,-1)");
        TWINS.of(4, "copy: OTHER, ahead of NOTHING");
        TWINS.other(RICH, "copy(3,0,0,0,1)", "copy(0,3,0,0,1)", "copy(3,4,0,0,1)", "copy(3,3,0,0,0)");
        TWINS.other(RICH, "copy(3,5,0,0,1)", "copy(5,3,0,0,1)");
        TWINS.of(4, "copy: OTHER, ahead of BAD the others");
        TWINS.other(RICH, "copy(3,0,-1,0,1)", "copy(0,3,0,41,1)", "copy(3,5,0,0,-1)");
        TWINS.of(4, "copy: OTHER (also ROWS of two SORTS, if both hold something)");
        TWINS.other(RICH, "copy(0,1,0,0,1)", "copy(1,0,0,0,1)", "copy(1,6,0,0,0)", "copy(0,1,-1,0,1)", "copy(1,0,0,0,6)");
        TWINS.other(FULL, "copy(0,1,0,0,1)", "copy(1,2,0,0,1)", "copy(2,3,0,0,1)", "copy(3,0,0,0,1)");
        TWINS.of(4, "copy: NOTHING, ahead of BAD the others");
        TWINS.nothing(RICH, "copy(0,5,0,0,1)", "copy(5,0,0,0,1)", "copy(5,7,0,0,0)", "copy(5,5,0,0,0)");
        TWINS.nothing(RICH, "copy(0,5,-1,0,1)", "copy(5,1,0,9,1)", "copy(7,0,0,0,-1)");
        TWINS.nothing(NEW, "copy(0,0,0,0,0)", "copy(7,0,0,0,1)");
        TWINS.of(4, "copy: BAD the others");
        TWINS.bad(RICH, "copy(0,6,-1,0,1)", "copy(0,6,3,0,1)", "copy(0,6,4,0,0)", "copy(0,6,MAX,0,1)", "copy(0,6,MIN,0,1)");
        TWINS.bad(RICH, "copy(6,0,0,-1,1)", "copy(6,0,0,3,1)", "copy(6,0,0,4,0)", "copy(6,0,0,MAX,1)", "copy(6,0,0,MIN,1)");
        TWINS.bad(RICH, "copy(0,6,0,0,-1)", "copy(0,6,0,0,4)", "copy(6,0,0,0,4)", "copy(6,6,0,0,41)", "copy(6,6,0,0,MAX)");
        TWINS.bad(RICH, "copy(0,0,0,0,MIN)", "copy(0,0,1,0,3)", "copy(0,0,0,1,3)", "copy(6,6,1,0,MAX)", "copy(6,6,MAX,MAX,MAX)");
        TWINS.bad(RICH, "copy(2,2,0,0,1)", "copy(2,0,0,0,1)", "copy(0,2,0,0,1)", "copy(2,2,1,0,0)", "copy(2,2,0,1,0)");
        TWINS.bad(RICH, "copy(0,0,-1,0,0)", "copy(0,0,0,-1,0)", "copy(0,0,2,-2,-2)");
    }

    private static void trees() {
        TWINS.of(7, "show: BAD");
        TWINS.bad(RICH, "show(-1,0)", "show(8,0)", "show(MIN,0)", "show(MAX,0)", "show(-1,NONE)", "show(8,NONE)");
        TWINS.bad(RICH, "show(3,8)", "show(3,-2)", "show(0,MIN)", "show(5,MAX)");
        TWINS.bad(NEW, "show(0,0)", "show(7,-2)");
        TWINS.bad(FULL, "show(0,12)", "show(8,11)");

        TWINS.of(8, "says: BAD SHELF, KIND, ahead of OTHER and NOTHING");
        TWINS.bad(RICH, "says(-1,0)", "says(8,0)", "says(MIN,0)", "says(MAX,0)");
        TWINS.bad(RICH, "says(3,-1)", "says(3,6)", "says(3,MIN)", "says(3,MAX)");
        TWINS.bad(RICH, "says(0,-1)", "says(0,6)", "says(5,-1)", "says(5,6)");
        TWINS.of(8, "says: OTHER");
        TWINS.other(RICH, "says(0,0)", "says(1,5)", "says(2,3)");
        TWINS.of(8, "says: OTHER (also if it is of no such KIND nor of one under it)");
        TWINS.other(RICH, "says(3,1)", "says(3,2)", "says(3,3)", "says(3,4)", "says(3,5)");
        TWINS.other(RICH, "says(4,1)", "says(4,2)", "says(4,3)", "says(4,5)");
        TWINS.other(RICH + "show(5,1)", "says(5,2)", "says(5,3)", "says(5,4)", "says(5,5)");
        TWINS.other(RICH + "show(5,2)", "says(5,1)", "says(5,3)", "says(5,4)", "says(5,5)");
        TWINS.other(RICH + "show(5,3)", "says(5,2)", "says(5,4)", "says(5,5)");
        TWINS.other(RICH + "show(5,5)", "says(5,1)", "says(5,3)", "says(5,4)");
        TWINS.of(8, "says: NOTHING");
        TWINS.nothing(RICH, "says(5,0)", "says(5,5)", "says(7,4)");
        TWINS.nothing(NEW, "says(0,0)", "says(7,5)");
    }

    private static void ground() {
        TWINS.of(9, "side: BAD");
        TWINS.bad(NEW, "side(2)", "side(9)", "side(0)", "side(-3)", "side(MIN)", "side(MAX)");
        TWINS.of(9, "side: BAD, ahead of STUCK");
        TWINS.bad(RICH, "side(2)", "side(9)");
        TWINS.of(9, "side: STUCK: there are TREES");
        TWINS.stuck(RICH, "side(3)", "side(8)", "side(6)");
        TWINS.stuck("tree(0,0,0)", "side(5)", "side(3)", "side(8)");

        TWINS.of(10, "tree: BAD");
        TWINS.bad(RICH, "tree(-1,3,0)", "tree(6,3,0)", "tree(MIN,3,0)", "tree(MAX,3,0)");
        TWINS.bad(RICH, "tree(0,-1,0)", "tree(0,36,0)", "tree(0,MIN,0)", "tree(0,MAX,0)");
        TWINS.bad(RICH, "tree(0,3,-1)", "tree(0,3,10)", "tree(0,3,MIN)", "tree(0,3,MAX)");
        for (int side = 3; side <= 8; side++) {
            TWINS.bad("side(" + side + ")", "tree(0," + side * side + ",0)", "tree(0,-1,0)");
        }
        TWINS.of(10, "tree: BAD, ahead of STUCK");
        TWINS.bad(RICH, "tree(6,1,0)", "tree(-1,1,0)", "tree(0,1,10)", "tree(0,1,-1)");
        TWINS.of(10, "tree: BAD, ahead of FULL");
        TWINS.bad(FULL, "tree(6,1,0)", "tree(-1,1,0)", "tree(0,64,0)", "tree(0,-1,0)", "tree(0,1,10)", "tree(0,1,-1)");
        TWINS.of(10, "tree: STUCK: the CELL is taken");
        TWINS.stuck(RICH, "tree(0,30,0)", "tree(4,22,0)", "tree(0,35,0)", "tree(5,2,9)");
        TWINS.stuck("side(3) tree(0,0,0) tree(0,8,0)", "tree(0,0,0)", "tree(4,8,0)");
        TWINS.of(10, "tree: STUCK, ahead of FULL");
        TWINS.stuck(FULL, "tree(0,0,0)", "tree(0,55,0)");
        TWINS.of(10, "tree: STUCK in each cell of a garden of nine, which isn't FULL");
        TWINS.stuck("side(3) plant(9)", "tree(0,0,0)", "tree(0,4,0)", "tree(0,8,0)");
        TWINS.of(10, "tree: FULL");
        TWINS.full(FULL, "tree(0,1,0)", "tree(5,63,9)");

        TWINS.of(11, "wish: BAD: fewer than three");
        TWINS.bad(RICH, "wish(0)", "wish(1)", "wish(128)", "wish(3)", "wish(129)");
        TWINS.of(11, "wish: BAD: others than there are");
        TWINS.bad(RICH, "wish(0x107)", "wish(0x1c0)", "wish(0x1007)", "wish(-1)", "wish(MIN)", "wish(MAX)", "wish(-2147483641)");
        TWINS.bad(NEW, "wish(0)", "wish(7)");
        TWINS.bad("tree(0,0,0) tree(0,1,0)", "wish(3)", "wish(7)");
        TWINS.bad(FULL + " content()", "wish(0x1003)", "wish(0x1fff)");
        TWINS.of(11, "wish: BAD, ahead of FULL");
        TWINS.bad(FULL, "wish(3)", "wish(0x1007)", "wish(0)");
        TWINS.of(11, "wish: FULL");
        TWINS.full(FULL, "wish(7)", "wish(0xfff)", "wish(0x407)");
    }

    private static void moves() {
        int[] promises = {13, 32};
        String[] names = {"move", "moved"};
        for (int i = 0; i < 2; i++) {
            String name = names[i];
            TWINS.of(promises[i], name + ": BAD");
            TWINS.bad(RICH, name + "(-1,3)", name + "(8,3)", name + "(MIN,3)", name + "(MAX,3)");
            TWINS.bad(RICH, name + "(0,-1)", name + "(0,36)", name + "(0,MIN)", name + "(0,MAX)");
            TWINS.bad(NEW, name + "(0,0)", name + "(-1,0)");
            TWINS.bad(FULL, name + "(12,1)", name + "(0,64)");
            TWINS.of(promises[i], name + ": BAD, ahead of STUCK");
            TWINS.bad(RICH, name + "(1,-1)", name + "(3,36)", name + "(8,8)", name + "(-1,1)");
            TWINS.of(promises[i], name + ": STUCK: it can't be moved");
            TWINS.stuck(RICH, name + "(1,3)", name + "(3,3)", name + "(1,8)");
            TWINS.of(promises[i], name + ": STUCK: the CELL is taken");
            TWINS.stuck(RICH, name + "(0,1)", name + "(2,22)", name + "(4,35)", name + "(7,30)");
            TWINS.stuck("side(3) 9*plant(1)", name + "(2,0)", name + "(2,8)");
            TWINS.of(promises[i], name + ": STUCK: the CELL is taken by the TREE itself");
            TWINS.stuck(RICH, name + "(0,30)", name + "(4,22)", name + "(1,1)");
        }

        TWINS.of(14, "fell: STUCK: there is none");
        TWINS.stuck(NEW, "fell()");
        TWINS.stuck("tree(0,0,0) show(0,0) fell() 'tree 0 0 0' image()", "fell()");
        TWINS.of(14, "fell: STUCK: it is in a WISH");
        TWINS.stuck(RICH + "fell()", "fell()");
        TWINS.stuck(RICH + "wish(0x83) show(5,7)", "fell()");
        TWINS.stuck(FULL + " content() 7*wish(7) wish(0x803)", "fell()");
    }

    private static void tape() {
        TWINS.of(15, "feed: BAD");
        TWINS.bad(RICH, "feed(-1)", "feed(256)", "feed(MIN)", "feed(MAX)");
        TWINS.bad(NEW, "feed(-1)", "feed(256)");
        TWINS.of(15, "feed: BAD, ahead of FULL");
        TWINS.bad("240*feed(32) 'tree 0 1 2'", "feed(-1)", "feed(256)");
        TWINS.of(15, "feed: FULL");
        TWINS.full("240*feed(32) 'tree 0 1 2'", "feed(0)", "feed(255)", "feed(32)");
        TWINS.of(17, "garden: -20 less the FAULT (that is refused, too: BAD). THE TAPE is empty then");
        TWINS.fault(RICH, ";tree 0 34 0;side 4", 24);
        TWINS.fault(FULL, "fell;tree 0 1 2;tree 0 2 2", 16);
        TWINS.fault("image()", "", 0);
    }

    private static void rows() {
        TWINS.of(18, "treeOf: BAD");
        TWINS.bad(RICH, "treeOf(-1,0)", "treeOf(8,0)", "treeOf(MIN,0)", "treeOf(MAX,0)");
        TWINS.bad(RICH, "treeOf(0,-1)", "treeOf(0,5)", "treeOf(0,MIN)", "treeOf(0,MAX)", "treeOf(8,5)");
        TWINS.bad(NEW, "treeOf(0,0)", "treeOf(-1,4)");
        TWINS.bad(FULL, "treeOf(12,0)", "treeOf(11,5)");

        TWINS.of(19, "treeAt: BAD");
        TWINS.bad(RICH, "treeAt(-1)", "treeAt(36)", "treeAt(MIN)", "treeAt(MAX)");
        for (int side = 3; side <= 8; side++) {
            TWINS.bad("side(" + side + ")", "treeAt(" + side * side + ")", "treeAt(-1)");
        }

        TWINS.of(20, "many: BAD");
        TWINS.bad(RICH, "many(1)", "many(13)", "many(0)", "many(-1)", "many(MIN)", "many(MAX)");
        TWINS.bad(NEW, "many(1)", "many(13)");

        TWINS.of(22, "rowAt: BAD");
        TWINS.bad(RICH, "rowAt(1,0)", "rowAt(13,0)", "rowAt(MIN,0)", "rowAt(MAX,0)", "rowAt(2,-1)", "rowAt(2,MIN)");
        TWINS.of(22, "rowAt: BAD, ahead of STUCK");
        TWINS.bad(RICH, "rowAt(1,99)", "rowAt(13,99)", "rowAt(12,-1)");
        TWINS.bad(NEW, "rowAt(1,0)", "rowAt(13,0)", "rowAt(2,-1)");
        TWINS.of(22, "rowAt: STUCK: not so many");
        TWINS.stuck(THREE, "rowAt(2,3)", "rowAt(2,MAX)", "rowAt(3,0)", "rowAt(12,0)");
        TWINS.stuck(THREE + "move(2,12)", "rowAt(3,1)", "rowAt(2,0)", "rowAt(4,0)");
        TWINS.stuck(NEW, "rowAt(2,0)", "rowAt(12,0)", "rowAt(2,MAX)");
        TWINS.stuck("tree(0,0,0)", "rowAt(2,0)");
        TWINS.stuck(THREE + "rowAt(2,0) fell()", "rowAt(2,1)", "rowAt(2,2)");

        TWINS.of(23, "longest: STUCK: there is none");
        TWINS.stuck(NEW, "longest()");
        TWINS.stuck("tree(0,0,0) 'fell' image()", "longest()");
        TWINS.stuck("tree(0,0,0) tree(4,1,0) tree(4,2,0)", "longest()");
        TWINS.stuck("tree(4,0,0) tree(4,1,0) tree(4,2,0)", "longest()");
        TWINS.stuck("tree(0,0,0) tree(0,1,0) fell()", "longest()");

        TWINS.of(25, "through: BAD");
        TWINS.bad(RICH, "through(-1,0)", "through(8,0)", "through(MIN,0)", "through(MAX,0)");
        TWINS.bad(RICH, "through(0,-1)", "through(0,8)", "through(0,MIN)", "through(0,MAX)");
        TWINS.bad(NEW, "through(0,1)", "through(0,0)");
        TWINS.bad(FULL, "through(0,12)", "through(12,11)");
        TWINS.of(25, "through: BAD: also one twice");
        TWINS.bad(RICH, "through(0,0)", "through(7,7)");
        TWINS.of(25, "through: BAD, ahead of STUCK");
        TWINS.bad(RICH, "through(4,4)", "through(4,8)", "through(-1,4)");
        TWINS.of(25, "through: STUCK: a CHERRY");
        TWINS.stuck(RICH, "through(4,0)", "through(0,4)");
        TWINS.stuck("tree(4,0,0) tree(4,1,0)", "through(0,1)", "through(1,0)");
    }

    private static void sets() {
        TWINS.of(26, "inLine: BAD: three at least");
        TWINS.bad(RICH, "inLine(0)", "inLine(1)", "inLine(3)", "inLine(129)");
        TWINS.of(26, "inLine: BAD: TREES that aren't there");
        TWINS.bad(RICH, "inLine(0x107)", "inLine(-1)", "inLine(MIN)", "inLine(MAX)", "inLine(-2147483641)");
        TWINS.bad(NEW, "inLine(0)", "inLine(7)");
        TWINS.bad(FULL, "inLine(0x1003)", "inLine(0x1fff)");
    }

    private static void judge() {
        TWINS.of(27, "judge: BAD SHELF, n, ahead of OTHER and NOTHING");
        TWINS.bad(RICH, "judge(-1,0)", "judge(8,0)", "judge(MIN,0)", "judge(MAX,0)", "judge(8,13)");
        TWINS.bad(RICH, "judge(6,-1)", "judge(6,13)", "judge(6,MIN)", "judge(6,MAX)");
        TWINS.bad(RICH, "judge(3,-1)", "judge(3,13)", "judge(5,-1)", "judge(5,13)");
        TWINS.of(27, "judge: OTHER");
        TWINS.other(RICH, "judge(3,0)", "judge(4,12)");
        TWINS.of(27, "judge: NOTHING");
        TWINS.nothing(RICH, "judge(5,0)", "judge(7,12)");
        TWINS.nothing(NEW, "judge(0,0)");
        TWINS.of(27, "judge: BAD: fewer elements");
        TWINS.bad(RICH, "judge(0,4)", "judge(0,12)", "judge(1,6)", "judge(2,1)");
        TWINS.bad(RICH + "row(5,4,11)", "judge(5,12)");
    }

    private static void comes() {
        TWINS.of(28, "gap: BAD");
        TWINS.bad(RICH, "gap(-1)", "gap(2)", "gap(MIN)", "gap(MAX)");
        TWINS.of(28, "gap: BAD, ahead of STUCK");
        TWINS.bad(NEW, "gap(-1)", "gap(2)");
        TWINS.of(28, "gap: STUCK: there is none");
        TWINS.stuck(NEW, "gap(0)", "gap(1)");
        TWINS.stuck("tree(0,0,0)", "gap(0)", "gap(1)");
        TWINS.stuck("tree(0,0,0) tree(0,9,0)", "gap(0)", "gap(1)");
        TWINS.stuck("tree(0,0,0) tree(0,6,0) tree(0,12,0) tree(0,24,0)", "gap(0)", "gap(1)");
        TWINS.stuck("tree(0,0,0) tree(0,6,0) tree(4,1,0)", "gap(0)", "gap(1)");
        TWINS.stuck(THREE + "fell()", "gap(0)", "gap(1)");
        TWINS.stuck(THREE + "gap(0) gap(1) fell()", "gap(0)", "gap(1)");
        TWINS.stuck(THREE + "gap(0) move(2,12)", "gap(0)", "gap(1)");

        TWINS.of(29, "missed: BAD");
        TWINS.bad(RICH, "missed(-1)", "missed(8)", "missed(MIN)", "missed(MAX)");
        TWINS.bad(NEW, "missed(0)", "missed(-1)");
        TWINS.bad(FULL, "missed(12)");

        TWINS.of(30, "least: STUCK: no TREES");
        TWINS.stuck(NEW, "least()");
        TWINS.stuck("tree(0,0,0) fell() 'fell'", "least()");

        TWINS.of(31, "best: BAD");
        TWINS.bad(RICH, "best(-1)", "best(3)", "best(MIN)", "best(MAX)");
        TWINS.bad(NEW, "best(-1)", "best(3)");
        TWINS.of(41, "bestFor: BAD");
        TWINS.bad(RICH, "bestFor(-1)", "bestFor(3)", "bestFor(MIN)", "bestFor(MAX)");
        TWINS.bad(NEW, "bestFor(-1)", "bestFor(3)");

        TWINS.of(34, "most: BAD");
        TWINS.bad(RICH, "most(0)", "most(6)", "most(-1)", "most(MIN)", "most(MAX)");
    }

    private static void sight() {
        TWINS.of(35, "view: BAD");
        TWINS.bad(RICH, "view(-1)", "view(36)", "view(MIN)", "view(MAX)");
        TWINS.of(37, "behind: BAD");
        TWINS.bad(RICH, "behind(-1,3)", "behind(8,3)", "behind(MIN,3)", "behind(MAX,3)");
        TWINS.bad(RICH, "behind(0,-1)", "behind(0,36)", "behind(0,MIN)", "behind(0,MAX)");
        TWINS.bad(NEW, "behind(0,0)", "behind(-1,-1)");
        TWINS.bad(FULL, "behind(12,1)", "behind(0,64)");
        TWINS.of(37, "behind: BAD: also the TREE's own CELL");
        TWINS.bad(RICH, "behind(0,30)", "behind(6,35)", "behind(4,22)");
        TWINS.of(38, "paths: BAD");
        TWINS.bad(RICH, "paths(-1)", "paths(4)", "paths(MIN)", "paths(MAX)");
        for (int side = 3; side <= 8; side++) {
            String beyond = "(" + side * side + ")";
            TWINS.of(35, "view: BAD, on each side");
            TWINS.bad("side(" + side + ")", "view" + beyond, "view(-1)");
            TWINS.of(48, "pointed: BAD, on each side");
            TWINS.bad("side(" + side + ")", "pointed" + beyond, "pointed(-1)");
        }
    }

    private static void wishes() {
        TWINS.of(39, "wishOf: BAD");
        TWINS.bad(RICH, "wishOf(-1)", "wishOf(2)", "wishOf(MIN)", "wishOf(MAX)");
        TWINS.bad(NEW, "wishOf(0)", "wishOf(-1)");
        TWINS.bad(FULL, "wishOf(8)");
        TWINS.bad(RICH + "content()", "wishOf(0)");
        TWINS.of(40, "met: BAD");
        TWINS.bad(RICH, "met(-2)", "met(2)", "met(MIN)", "met(MAX)");
        TWINS.bad(NEW, "met(0)", "met(-2)");
        TWINS.bad(FULL, "met(8)");
        TWINS.bad(RICH + "content()", "met(0)");
    }

    private static void shapes() {
        TWINS.of(43, "middle: STUCK: no TREES");
        TWINS.stuck(NEW, "middle()");
        TWINS.stuck("tree(0,0,0) fell()", "middle()");
        TWINS.of(44, "nearest: STUCK: fewer than two");
        TWINS.stuck(NEW, "nearest()");
        TWINS.stuck("tree(0,7,0) 'fell' image()", "nearest()");
        TWINS.stuck("tree(0,7,0) tree(0,8,0) fell()", "nearest()");
        TWINS.of(48, "pointed: BAD");
        TWINS.bad(RICH, "pointed(-1)", "pointed(36)", "pointed(MIN)", "pointed(MAX)");
    }

    private static void truth() {
        TWINS.of(52, "plant: BAD");
        TWINS.bad(RICH, "plant(0)", "plant(13)", "plant(-1)", "plant(MIN)", "plant(MAX)");
        TWINS.bad(NEW, "plant(0)", "plant(13)");
        TWINS.of(52, "plant: BAD, though there is no room either");
        TWINS.bad(FULL, "plant(0)", "plant(13)");
        TWINS.of(55, "back: STUCK: nothing was");
        TWINS.stuck(NEW, "back()");
        TWINS.stuck("tree(0,0,0) show(0,0) row(1,0,1) 'fell'", "back()");
    }
}
