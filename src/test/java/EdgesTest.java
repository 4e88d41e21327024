/**
 * What is answered at the ends: promises 1 to 16 and 49 to 56. The last numbers that may be, nothing there yet and
 * everything full, and numbers that wrap around. What may not be is in RefusalsTest.
 */
public final class EdgesTest {
    private static final Checks CHECKS = new Checks("EdgesTest");
    private static final Twins TWINS = new Twins(CHECKS);
    private static final String NEW = "";
    private static final String NINE = "side(3) tree(0,0,0) tree(0,1,0) tree(0,2,0) tree(0,3,0) tree(0,4,0) tree(0,5,0) "
        + "tree(0,6,0) tree(0,7,0) tree(0,8,0) ";
    /** Twelve trees in cells 0 to 11 of side 4, all of a kind. */
    private static final String TWELVE = "side(4) " + twelve(0);

    public static void main(String[] args) {
        newObject();
        row();
        set();
        copy();
        elementAndHolds();
        show();
        saysOfCounts();
        saysOfPlaces();
        side();
        tree();
        wish();
        move();
        fell();
        tape();
        turnAndMirror();
        improve();
        plant();
        plantUntilFull();
        draws();
        seed();
        imageAndBack();
        status();
        int[] promises = new int[24];
        for (int i = 0; i < 24; i++) {
            promises[i] = i < 16 ? i + 1 : i + 33;
        }
        CHECKS.allCovered(promises);
        CHECKS.finish();
    }

    private static String twelve(int kind) {
        StringBuilder told = new StringBuilder();
        for (int t = 0; t < 12; t++) {
            told.append("tree(").append(kind).append(',').append(t).append(',').append(t % 10).append(") ");
        }
        return told.toString();
    }

    private static void newObject() {
        TWINS.of(1, "SIDE 5, no TREES; SHELVES hold NOTHING; THE TAPE is empty");
        TWINS.asks(NEW, "status(0)=5", "status(1)=0", "status(2)=0", "status(3)=0", "status(4)=0", "status(5)=0", "status(9)=0");
        TWINS.asks(NEW, "treeAt(0)=-1", "treeAt(24)=-1", "met(NONE)=0", "alone()=0", "status(6)=0", "status(8)=0");
        TWINS.asks(NEW, "holds(0)=-1", "holds(1)=-1", "holds(2)=-1", "holds(3)=-1", "holds(4)=-1", "holds(5)=-1", "holds(6)=-1",
            "holds(7)=-1");
        TWINS.of(1, "A DRAW: SEED (1 at first)");
        TWINS.asks(NEW, "status(7)=1");
        TWINS.of(1, "REFUSALS: how many there were");
        TWINS.asks(NEW, "status(12)=0", "status(13)=0", "status(14)=0", "status(15)=0", "status(16)=0");
    }

    private static void row() {
        TWINS.of(2, "SHELVES 0 to 7");
        TWINS.runs(NEW, "row(0,0,1)=1", "holds(0)=0", "row(7,0,1)=1", "holds(7)=0", "status(8)=2");
        TWINS.of(2, "a SORT (0 bytes, 1 shorts, 2 ints, 3 longs, 4 booleans)");
        TWINS.runs(NEW, "row(0,0,1)=1", "row(1,1,1)=1", "row(2,2,1)=1", "row(3,3,1)=1", "row(4,4,1)=1", "holds(0)=0", "holds(1)=1",
            "holds(2)=2", "holds(3)=3", "holds(4)=4");
        TWINS.of(2, "0 to 40 elements");
        TWINS.runs(NEW, "row(0,2,0)=1", "holds(0)=2", "status(8)=1", "copy(0,0,0,0,0)=0");
        TWINS.runs(NEW, "row(0,2,40)=1", "set(0,39,7)=1", "element(0,39)=7", "copy(0,0,0,0,40)=40");
        TWINS.of(2, "0, or not so, at first");
        for (int sort = 0; sort <= 4; sort++) {
            TWINS.runs(NEW, "row(5," + sort + ",40)=1", "element(5,0)=0", "element(5,39)=0", "set(5,0,1)=1", "set(5,39,1)=1",
                "row(5," + sort + ",40)=1", "element(5,0)=0", "element(5,39)=0");
        }
        TWINS.runs("row(5,3,40) set(5,39,1) set(5,0,1)", "row(5,3,1)=1", "element(5,0)=0", "row(5,3,40)=1", "element(5,39)=0");
        TWINS.of(2, "SHELF s holds a new ROW, whatever it held");
        TWINS.runs("tree(0,0,0) show(5,0)", "row(5,1,2)=1", "holds(5)=1", "status(8)=1", "element(5,1)=0");
        TWINS.runs("row(0,0,1) row(1,0,1) row(2,0,1) row(3,0,1) row(4,0,1) row(5,0,1) row(6,0,1) row(7,0,1)", "status(8)=8",
            "row(7,4,40)=1", "status(8)=8", "holds(7)=4", "holds(6)=0");
    }

    private static void kept(int sort, long told, long want) {
        TWINS.runs("row(1," + sort + ",3)", "set(1,1," + told + ")=1", "element(1,1)=" + want, "element(1,0)=0", "element(1,2)=0");
    }

    private static void set() {
        TWINS.of(3, "Element i becomes v, the first and the last");
        TWINS.runs("row(0,3,40)", "set(0,0,5)=1", "set(0,39,6)=1", "element(0,0)=5", "element(0,39)=6", "element(0,1)=0",
            "element(0,38)=0");
        TWINS.runs("row(7,3,1)", "set(7,0,5)=1", "element(7,0)=5", "set(7,0,0)=1", "element(7,0)=0");
        TWINS.of(3, "what is put in keeps its lowest bits");
        for (int sort = 0; sort <= 3; sort++) {
            int bits = 8 << sort;
            long most = (1L << bits - 1) - 1;
            kept(sort, most, most);
            kept(sort, most + 1, -most - 1);
            kept(sort, -most - 1, -most - 1);
            kept(sort, -most - 2, most);
            kept(sort, -1, -1);
            kept(sort, 0, 0);
            if (sort < 3) {
                kept(sort, 2 * most + 1, -1);
                kept(sort, 2 * most + 2, 0);
                kept(sort, 2 * most + 3, 1);
                kept(sort, Long.MAX_VALUE, -1);
                kept(sort, Long.MIN_VALUE, 0);
                kept(sort, Long.MIN_VALUE + most, most);
            }
        }
        TWINS.of(3, "(of booleans: whether it is not 0)");
        for (long told : new long[] {1, -1, 2, 256, 65536, 1L << 32, Long.MIN_VALUE, Long.MAX_VALUE}) {
            kept(4, told, 1);
        }
        kept(4, 0, 0);
        TWINS.runs("row(1,4,1) set(1,0,1)", "set(1,0,256)=1", "element(1,0)=1", "set(1,0,0)=1", "element(1,0)=0");
    }

    private static void copy() {
        String five = "row(0,2,5) set(0,0,1) set(0,1,2) set(0,2,3) set(0,3,4) set(0,4,5) row(1,2,3) ";
        TWINS.of(4, "n elements, none of them");
        TWINS.asks(five, "copy(0,1,0,0,0)=0", "copy(0,1,5,0,0)=0", "copy(0,1,0,3,0)=0", "copy(0,1,5,3,0)=0", "copy(0,0,5,5,0)=0");
        TWINS.asks("row(0,2,0) row(7,2,0)", "copy(0,7,0,0,0)=0", "copy(7,7,0,0,0)=0");
        TWINS.of(4, "n elements, all of them, up to the last place");
        TWINS.asks(five, "copy(0,0,0,0,5)=5");
        TWINS.runs(five, "copy(1,0,0,2,3)=3", "element(0,0)=1", "element(0,1)=2", "element(0,2)=0", "element(0,3)=0", "element(0,4)=0");
        TWINS.runs(five, "copy(0,1,2,0,3)=3", "element(1,0)=3", "element(1,1)=4", "element(1,2)=5", "element(0,2)=3");
        TWINS.runs(five, "copy(0,1,4,2,1)=1", "element(1,2)=5", "element(1,1)=0");
        TWINS.runs("row(3,0,40) set(3,39,9) set(3,0,8) row(4,0,40)", "copy(3,4,0,0,40)=40", "element(4,39)=9", "element(4,0)=8");
        TWINS.of(4, "(as they were), though both are one ROW");
        TWINS.runs(five, "copy(0,0,0,1,4)=4", "element(0,0)=1", "element(0,1)=1", "element(0,2)=2", "element(0,3)=3", "element(0,4)=4");
        TWINS.runs(five, "copy(0,0,1,0,4)=4", "element(0,0)=2", "element(0,1)=3", "element(0,2)=4", "element(0,3)=5", "element(0,4)=5");
    }

    private static void elementAndHolds() {
        String held = "tree(0,3,7) row(0,0,3) set(0,2,4) row(1,4,0) show(2,0) row(7,3,40) set(7,39,9)";
        TWINS.of(5, "0: none, no ROW (nothing is refused)");
        TWINS.asks(held, "element(0,2)=4", "element(0,3)=0", "element(0,-1)=0", "element(0,MIN)=0", "element(0,MAX)=0");
        TWINS.asks(held, "element(1,0)=0", "element(2,0)=0", "element(3,0)=0", "element(7,39)=9", "element(7,40)=0");
        TWINS.asks(held, "element(-1,0)=0", "element(8,0)=0", "element(MIN,0)=0", "element(MAX,0)=0", "element(-1,-1)=0");
        TWINS.asks(NEW, "element(0,0)=0", "element(7,39)=0");
        TWINS.of(5, "nothing is left of a longer ROW that was there");
        TWINS.asks("row(0,0,40) set(0,39,1) row(0,0,3)", "element(0,39)=0");
        TWINS.of(6, "NONE NOTHING, no SHELF");
        TWINS.asks(held, "holds(3)=-1", "holds(-1)=-1", "holds(8)=-1", "holds(MIN)=-1", "holds(MAX)=-1");
        TWINS.of(6, "0 to 4 a ROW by its SORT");
        TWINS.asks(held, "holds(0)=0", "holds(1)=4", "holds(7)=3");
        TWINS.of(6, "10 and the number of a TREE");
        TWINS.asks(held, "holds(2)=10");
        TWINS.asks(TWELVE + "show(7,11) show(0,0)", "holds(7)=21", "holds(0)=10");
    }

    private static void show() {
        TWINS.of(7, "SHELF s holds a TREE, the first and the last");
        TWINS.runs(TWELVE, "show(0,0)=1", "holds(0)=10", "show(7,11)=1", "holds(7)=21", "status(8)=2");
        TWINS.runs(TWELVE, "show(0,3)=1", "show(0,4)=1", "holds(0)=14", "show(1,4)=1", "status(8)=2");
        TWINS.of(7, "or NOTHING (tree NONE)");
        TWINS.runs("tree(0,0,0) show(0,0) row(7,0,4) set(7,0,3)", "show(0,NONE)=1", "holds(0)=-1", "show(7,NONE)=1", "holds(7)=-1",
            "element(7,0)=0", "status(8)=0");
        TWINS.asks(NEW, "show(0,NONE)=1", "show(7,NONE)=1");
        TWINS.of(7, "a TREE in place of a ROW");
        TWINS.runs("tree(0,0,0) row(7,0,4) set(7,0,3)", "show(7,0)=1", "holds(7)=10", "element(7,0)=0");
    }

    private static void saysOfCounts() {
        TWINS.of(8, "TREE in how many THREES it is");
        TWINS.asks("tree(0,0,0) tree(0,1,0) show(0,0)", "says(0,0)=0");
        TWINS.asks(NINE + "show(7,4) show(0,0) show(1,1)", "says(7,0)=4", "says(0,0)=3", "says(1,0)=2");
        TWINS.asks("tree(4,0,0) tree(0,1,0) tree(0,2,0) tree(0,3,0) show(0,0) show(1,3)", "says(0,0)=0", "says(1,0)=1");
        TWINS.of(8, "FIRM in how many WISHES it is");
        TWINS.asks("side(4) " + twelve(1) + "7*wish(7) wish(0x803) show(0,0) show(1,2) show(2,11) show(3,3)", "says(0,1)=8",
            "says(1,1)=7", "says(2,1)=1", "says(3,1)=0");
        TWINS.of(8, "OAK, SPRIG its a");
        TWINS.asks("tree(3,0,0) tree(3,1,9) tree(5,2,0) tree(5,3,9) show(0,0) show(1,1) show(2,2) show(3,3)", "says(0,3)=0",
            "says(1,3)=9", "says(2,5)=0", "says(3,5)=9");
        TWINS.of(8, "taken for one of a KIND: an OAK for FIRM, a SPRIG for LOW, each for a TREE");
        TWINS.asks("tree(3,0,9) tree(5,1,8) tree(0,2,7) 2*wish(7) show(0,0) show(7,1)", "says(0,0)=1", "says(0,1)=2", "says(0,3)=9",
            "says(7,0)=1", "says(7,2)=2", "says(7,5)=8");
    }

    private static void saysOfPlaces() {
        TWINS.of(8, "LOW from how many other TREES' CELLS it is SEEN");
        TWINS.asks("tree(2,12,0) show(0,0)", "says(0,2)=0");
        TWINS.asks("tree(2,0,0) tree(0,4,0) show(0,0)", "says(0,2)=1");
        TWINS.asks("tree(2,0,0) tree(0,1,0) tree(0,2,0) show(0,0)", "says(0,2)=1");
        TWINS.asks("tree(2,0,0) tree(2,1,0) tree(5,2,0) show(0,0) show(1,2)", "says(0,2)=2", "says(1,2)=2");
        TWINS.asks("side(4) " + twelve(2) + "show(0,0) show(1,11)", "says(0,2)=11", "says(1,2)=11");
        TWINS.of(8, "CHERRY the distance (rows and columns apart) to the nearest other TREE (0: none)");
        TWINS.asks("tree(4,12,0) show(0,0)", "says(0,4)=0");
        TWINS.asks("tree(4,12,0) tree(4,13,0) fell() show(0,0)", "says(0,4)=0");
        TWINS.asks("side(8) tree(4,0,0) tree(0,63,0) show(0,0)", "says(0,4)=14");
        TWINS.asks("side(8) tree(0,63,0) tree(4,0,0) show(7,1)", "says(7,4)=14");
        TWINS.asks("tree(0,24,0) tree(4,12,0) tree(4,13,0) show(0,1) show(1,2)", "says(0,4)=1", "says(1,4)=1");
        TWINS.asks("tree(4,4,0) tree(0,5,0) show(0,0)", "says(0,4)=5");
    }

    private static void side() {
        TWINS.of(9, "SIDE n (3 to 8; 5 at first): what it was");
        TWINS.runs(NEW, "side(3)=5", "status(0)=3", "side(8)=3", "status(0)=8", "side(8)=8", "side(5)=8", "status(0)=5");
        for (int n = 3; n <= 8; n++) {
            int last = n * n - 1;
            TWINS.of(9, "CELLS are 0 to n n less 1, on a side of " + n);
            TWINS.runs("side(" + n + ")", "status(0)=" + n, "treeAt(" + last + ")=-1", "treeAt(0)=-1", "tree(0,0,0)=0",
                "tree(0," + last + ",0)=1", "treeAt(" + last + ")=1", "treeAt(0)=0", "view(" + last + ")=1", "pointed(" + last + ")=0",
                "behind(0," + last + ")=-1", "fell()=1", "moved(0," + last + ")=0", "move(0," + last + ")=0", "treeOf(0,1)=" + last);
        }
        TWINS.of(9, "STUCK no more when all TREES are felled");
        TWINS.runs("tree(0,0,0) tree(0,24,0)", "fell()=1", "fell()=0", "side(8)=5", "tree(0,63,0)=0");
    }

    private static void tree() {
        TWINS.of(10, "A TREE: its number; 12 at most");
        TWINS.runs("side(8)", "tree(0,0,0)=0", "tree(5,63,9)=1", "treeOf(1,0)=5", "treeOf(1,1)=63", "treeOf(1,2)=9", "treeOf(0,0)=0",
            "treeOf(0,1)=0", "treeOf(0,2)=0");
        TWINS.runs(TWELVE + "fell()", "tree(5,15,9)=11", "status(1)=12", "treeOf(11,0)=5", "treeOf(11,1)=15", "treeOf(11,2)=9");
        TWINS.of(10, "each of a KIND, a (0 to 9)");
        for (int kind = 0; kind <= 5; kind++) {
            TWINS.runs(NEW, "tree(" + kind + ",7,9)=0", "treeOf(0,0)=" + kind, "treeOf(0,2)=9");
        }
        TWINS.of(10, "none two in one CELL, which is free again behind it");
        TWINS.runs("tree(0,7,0) move(0,8)", "tree(0,7,0)=1", "treeAt(7)=1");
        TWINS.runs("tree(0,7,0) fell()", "tree(0,7,0)=0");
        TWINS.of(10, "nine on a side of 3");
        TWINS.runs(NINE + "fell()", "tree(0,8,0)=8", "status(1)=9");
    }

    private static void wish() {
        TWINS.of(11, "A WISH: its number (0 on); sets of three or more TREES");
        TWINS.runs("tree(0,0,0) tree(4,1,0) tree(1,2,0)", "wish(7)=0", "wish(7)=1", "wishOf(0)=7", "wishOf(1)=7");
        TWINS.runs(TWELVE, "wish(0xe00)=0", "wish(0xfff)=1", "wishOf(0)=0xe00", "wishOf(1)=0xfff", "status(5)=2");
        TWINS.of(11, "8 at most");
        TWINS.runs(TWELVE + "7*wish(7)", "wish(0x803)=7", "status(5)=8", "wishOf(7)=0x803", "wishOf(6)=7");
        TWINS.of(12, "All WISHES are gone: how many there were");
        TWINS.asks(NEW, "content()=0");
        TWINS.runs(TWELVE + "8*wish(7)", "content()=8", "status(5)=0", "content()=0", "met(NONE)=0", "wish(14)=0", "wishOf(0)=14");
        TWINS.runs(TWELVE + "wish(7)", "content()=1", "status(5)=0");
    }

    private static void move() {
        TWINS.of(13, "A TREE is moved in truth: the CELL it was in");
        TWINS.runs(TWELVE, "move(0,15)=0", "treeAt(0)=-1", "treeAt(15)=0", "move(11,0)=11", "treeAt(0)=11", "move(0,11)=15",
            "treeAt(11)=0", "treeOf(0,2)=0", "treeOf(11,2)=1");
        TWINS.of(13, "to the only CELL in which none is");
        TWINS.runs(NINE + "fell()", "move(0,8)=0", "move(1,0)=1", "treeAt(8)=0", "treeAt(0)=1", "treeAt(1)=-1");
        TWINS.of(13, "can be moved: all but FIRM ones (and OAKS), in a WISH or not");
        TWINS.runs("tree(0,0,0) tree(2,1,0) tree(4,2,0) tree(5,3,0) wish(15)", "move(0,24)=0", "move(1,23)=1", "move(2,22)=2",
            "move(3,21)=3");
    }

    private static void fell() {
        TWINS.of(14, "The last TREE is felled: how many are left");
        TWINS.runs(TWELVE, "fell()=11", "treeAt(11)=-1", "treeAt(10)=10", "fell()=10", "status(1)=10");
        TWINS.runs("tree(3,4,0)", "fell()=0", "status(1)=0", "treeAt(4)=-1", "status(4)=0");
        TWINS.of(14, "(SHELVES that hold it hold NOTHING)");
        TWINS.runs("tree(0,0,0) tree(0,1,0) show(0,1) show(7,1) show(3,0) row(4,0,2) set(4,1,1)", "fell()=1", "holds(0)=-1",
            "holds(7)=-1", "holds(3)=10", "holds(4)=0", "element(4,1)=1", "status(8)=2", "tree(0,1,0)=1", "holds(0)=-1");
        TWINS.of(14, "a TREE that is in no WISH, though others are");
        TWINS.runs(TWELVE + "8*wish(0x7ff)", "fell()=11");
        TWINS.runs(TWELVE + "wish(0x803)", "content()=1", "fell()=11");
    }

    private static void tape() {
        TWINS.of(15, "one byte (0 to 255) behind it: its size");
        TWINS.runs(NEW, "feed(0)=1", "feed(255)=2", "status(6)=2");
        TWINS.of(15, "250 at most");
        TWINS.runs("248*feed(32)", "feed(32)=249", "feed(0)=250", "status(6)=250");
        TWINS.of(16, "THE TAPE is empty: its size ahead");
        TWINS.asks(NEW, "wipe()=0");
        TWINS.runs("250*feed(32)", "wipe()=250", "status(6)=0", "wipe()=0", "feed(32)=1", "wipe()=1");
        TWINS.of(16, "what was there isn't read any more");
        TWINS.runs("'tree 0 0 0;tree 0 1 0' wipe() 'tree 0 2 0'", "garden()=1", "status(1)=1", "treeAt(2)=0", "status(6)=0");
    }

    private static void turnAndMirror() {
        TWINS.of(49, "How many TREES are FIRM, in a garden without TREES");
        TWINS.asks(NEW, "turn()=0", "mirror()=0");
        for (int n = 3; n <= 8; n++) {
            int right = n - 1;
            int last = n * n - 1;
            int left = last - right;
            String corner = "side(" + n + ") tree(1,0,0) tree(3,1,0)";
            TWINS.of(49, "row r, column c comes to row c, column n less 1 less r, in the corners of " + n);
            TWINS.runs(corner, "turn()=2", "treeOf(0,1)=" + right, "treeOf(1,1)=" + (right + n), "turn()=2", "treeOf(0,1)=" + last,
                "turn()=2", "treeOf(0,1)=" + left, "turn()=2", "treeOf(0,1)=0", "treeOf(1,1)=1");
            TWINS.of(50, "column c becomes n less 1 less c, in the corners of " + n);
            TWINS.runs(corner + " tree(0," + last + ",0)", "mirror()=2", "treeOf(0,1)=" + right, "treeOf(1,1)=" + (right - 1),
                "treeOf(2,1)=" + left, "mirror()=2", "treeOf(0,1)=0", "treeOf(1,1)=1", "treeOf(2,1)=" + last);
        }
        TWINS.of(49, "(All turn, FIRM ones too.)");
        TWINS.runs("side(4) " + twelve(1), "turn()=12", "treeOf(0,1)=3", "treeOf(11,1)=13");
        TWINS.of(50, "as turn()");
        TWINS.runs("side(4) " + twelve(3), "mirror()=12", "treeOf(0,1)=3", "treeOf(11,1)=8");
        TWINS.asks("tree(0,12,0)", "turn()=0", "mirror()=0");
    }

    private static void improve() {
        TWINS.of(51, "if there are more THREES by it: how many there are then");
        TWINS.runs("side(3) tree(0,0,0) tree(0,1,0) tree(0,5,0)", "improve()=1", "treeAt(2)=2", "threes()=1");
        TWINS.of(51, "not if there are as many by it");
        TWINS.asks("tree(0,0,0) tree(0,1,0) tree(0,2,0)", "improve()=1");
        TWINS.asks("tree(0,0,0) tree(0,1,0)", "improve()=0");
        TWINS.of(51, "not if there are fewer by it");
        TWINS.asks("side(3) tree(1,0,0) tree(0,1,0) tree(1,2,0)", "improve()=1");
        TWINS.of(51, "nor if none can be moved");
        TWINS.asks(NEW, "improve()=0");
        TWINS.asks("tree(1,0,0) tree(3,1,0) tree(1,2,0)", "improve()=1");
        TWINS.asks("tree(1,0,0) tree(3,1,0) tree(1,7,0)", "improve()=0");
        TWINS.asks(NINE, "improve()=8");
    }

    private static void plant() {
        TWINS.of(52, "By DRAWS n TREES (1 to 12): how many");
        TWINS.runs(NEW, "plant(1)=1", "status(1)=1", "treeOf(0,0)=2", "treeOf(0,1)=1", "treeOf(0,2)=3");
        TWINS.runs(NEW, "plant(2)=2", "treeOf(1,0)=3", "treeOf(1,1)=19", "treeOf(1,2)=5", "status(7)=-1778682749");
        TWINS.runs(NEW, "plant(12)=12", "status(1)=12", "treeOf(11,1)=21", "status(7)=-897876963");
        TWINS.of(52, "KIND a DRAW below 6, CELL a DRAW below n n, a a DRAW below 10");
        TWINS.runs("side(3)", "plant(1)=1", "treeOf(0,0)=2", "treeOf(0,1)=6", "treeOf(0,2)=3");
        TWINS.runs("side(8)", "plant(1)=1", "treeOf(0,0)=2", "treeOf(0,1)=62", "treeOf(0,2)=3");
        TWINS.of(52, "the next by numbers in which none is");
        TWINS.runs("tree(0,1,0)", "plant(1)=1", "treeOf(1,1)=2");
        TWINS.runs("tree(0,1,0) tree(0,2,0) tree(0,4,0)", "plant(1)=1", "treeOf(3,1)=3");
        TWINS.of(52, "the next by numbers, the last CELL too");
        TWINS.runs("side(8) tree(0,62,0)", "plant(1)=1", "treeOf(1,1)=63");
        TWINS.runs("side(3) seed(-42)", "plant(1)=1", "treeOf(0,0)=1", "treeOf(0,1)=8", "treeOf(0,2)=5");
        TWINS.of(52, "(behind the last: 0)");
        TWINS.runs("side(8) tree(0,62,0) tree(0,63,0)", "plant(1)=1", "treeOf(2,1)=0");
        TWINS.runs("side(3) seed(-42) tree(0,8,0)", "plant(1)=1", "treeOf(1,1)=0", "treeOf(1,0)=1", "treeOf(1,2)=5");
        TWINS.runs("side(3) seed(-42) tree(0,8,0) tree(0,0,0)", "plant(1)=1", "treeOf(2,1)=1");
        TWINS.runs("side(3) seed(-42) tree(0,0,0) tree(0,1,0) tree(0,2,0) tree(0,3,0) tree(0,4,0) tree(0,5,0) tree(0,6,0) tree(0,8,0)",
            "plant(1)=1", "treeOf(8,1)=7");
    }

    private static void plantUntilFull() {
        TWINS.of(52, "until there is no room");
        TWINS.runs("plant(11)", "status(7)=-286636026", "plant(12)=1", "status(1)=12", "status(7)=-897876963");
        TWINS.runs("plant(11)", "plant(1)=1", "status(1)=12");
        TWINS.asks("plant(12)", "plant(1)=0", "plant(12)=0");
        TWINS.of(52, "until there is no CELL");
        TWINS.runs("side(3)", "plant(12)=9", "status(1)=9", "treeOf(8,1)=1", "status(7)=1116175964");
        TWINS.runs("side(3) plant(8)", "status(7)=675780521", "plant(12)=1", "treeOf(8,1)=1", "status(7)=1116175964");
        TWINS.asks(NINE, "plant(1)=0", "plant(12)=0");
        TWINS.runs("side(3)", "plant(9)=9", "plant(1)=0");
        TWINS.of(52, "sixteen CELLS are more than there may be TREES");
        TWINS.runs("side(4)", "plant(12)=12", "plant(12)=0");
    }

    private static void draw(int seed, int kind, int cell, int a) {
        TWINS.runs("seed(" + seed + ")", "plant(1)=1", "treeOf(0,0)=" + kind, "treeOf(0,1)=" + cell, "treeOf(0,2)=" + a);
    }

    private static void draws() {
        TWINS.of(52, "SEED times 1103515245, and 12345 (an int, wrapping)");
        TWINS.runs("seed(0)", "plant(2)=2", "status(7)=-1038148470", "treeOf(1,1)=23");
        TWINS.runs("seed(-1)", "plant(2)=2", "status(7)=-297614191", "treeOf(1,1)=13");
        TWINS.runs("seed(MIN)", "plant(2)=2", "status(7)=1109335178", "treeOf(1,1)=16");
        TWINS.runs("seed(MAX)", "plant(2)=2", "status(7)=1849869457", "treeOf(1,1)=6");
        TWINS.of(52, "its upper 16 bits, no sign, modulo n: all three above 32767");
        draw(18, 40945 % 6, 33610 % 25, 45019 % 10);
        TWINS.of(52, "its upper 16 bits, no sign, modulo n: all three below");
        draw(39, 1334 % 6, 31393 % 25, 14891 % 10);
        TWINS.of(52, "its upper 16 bits, no sign, modulo n: 0 and 32768");
        draw(0, 0, 54236 % 25, 42756 % 10);
        draw(15557, 6140 % 6, 46893 % 25, 0);
        draw(Integer.MIN_VALUE, 32768 % 6, 21468 % 25, 9988 % 10);
    }

    private static void seed() {
        TWINS.of(53, "SEED becomes v: the one ahead");
        TWINS.runs(NEW, "seed(MIN)=1", "seed(MAX)=" + Integer.MIN_VALUE, "seed(0)=" + Integer.MAX_VALUE, "seed(-1)=0", "seed(1)=-1",
            "status(7)=1");
        TWINS.of(53, "a -2 of SEED isn't refused");
        TWINS.runs("seed(-2)", "seed(-6)=-2", "status(7)=-6", "seed(1)=-6");
    }

    private static void imageAndBack() {
        String garden = "side(8) tree(0,0,1) tree(1,9,2) tree(4,63,3) wish(7) seed(-5) ";
        TWINS.of(54, "All is kept, but THE TAPE, SHELVES and REFUSALS");
        TWINS.runs(NEW, "image()=1", "image()=1");
        TWINS.runs(garden + "image() content() fell() fell() fell() side(3) plant(9) 8*wish(7) seed(9)", "back()=1", "status(0)=8",
            "status(1)=3", "status(5)=1", "status(7)=-5", "treeOf(0,1)=0", "treeOf(1,1)=9", "treeOf(2,1)=63", "treeOf(2,0)=4",
            "treeOf(2,2)=3", "treeOf(1,0)=1", "wishOf(0)=7", "status(3)=1");
        TWINS.runs(garden + "'fe' row(0,0,1) show(1,2) image() 'll' set(0,0,4) show(1,1)", "back()=1", "status(6)=4", "element(0,0)=4",
            "holds(1)=11");
        TWINS.of(54, "a garden without TREES is kept, too");
        TWINS.runs("image() plant(12) wish(7) show(0,0) show(7,11)", "back()=1", "status(1)=0", "status(5)=0", "status(7)=1",
            "status(0)=5", "holds(0)=-1", "holds(7)=-1", "status(8)=0");
        TWINS.of(54, "the newest image");
        TWINS.runs(garden + "image() move(0,1) image() move(0,2)", "back()=1", "treeAt(1)=0",
            "move(0,3)=1", "image()=1", "move(0,4)=3", "back()=1", "treeAt(3)=0");
        TWINS.of(55, "All is again as it was kept, any number of times");
        TWINS.runs(garden + "image()", "back()=1", "move(0,1)=0", "back()=1", "treeAt(0)=0", "turn()=1", "back()=1", "treeAt(0)=0",
            "treeAt(9)=1", "treeAt(63)=2", "content()=1", "back()=1", "wishOf(0)=7", "plant(9)=9", "back()=1", "status(1)=3",
            "status(7)=-5");
        TWINS.of(55, "(SHELVES with TREES hold those of the same numbers, or NOTHING)");
        TWINS.runs("tree(0,0,0) tree(0,1,0) image() tree(0,2,0) show(0,0) show(1,1) show(2,2) show(7,2) row(3,0,1)", "back()=1",
            "holds(0)=10", "holds(1)=11", "holds(2)=-1", "holds(7)=-1", "holds(3)=0", "status(8)=3");
        TWINS.runs("tree(3,0,7) tree(0,1,0) image() fell() fell() tree(5,9,8) show(0,0)", "says(0,5)=8", "back()=1", "holds(0)=10",
            "says(0,3)=7");
        TWINS.runs(TWELVE + "show(0,11) image() show(1,0) fell()", "holds(0)=-1", "back()=1", "holds(0)=-1", "holds(1)=10",
            "show(0,11)=1", "back()=1", "holds(0)=21");
    }

    private static void status() {
        TWINS.of(56, "NONE another what");
        TWINS.asks(TWELVE, "status(-1)=-1", "status(10)=-1", "status(11)=-1", "status(17)=-1", "status(MIN)=-1", "status(MAX)=-1");
        TWINS.asks(NEW, "status(-1)=-1", "status(10)=-1", "status(11)=-1", "status(17)=-1");
        TWINS.of(56, "at its fullest");
        String full = "side(8) " + twelve(4) + "8*wish(7) row(0,0,1) row(1,0,0) row(2,0,0) row(3,0,0) show(4,0) show(5,0) show(6,0) "
            + "show(7,11) seed(MIN) 250*feed(32)";
        TWINS.runs(full, "status(0)=8", "status(1)=12", "status(2)=0", "status(3)=12", "status(4)=0", "status(5)=8", "status(6)=250",
            "status(7)=" + Integer.MIN_VALUE, "status(8)=8", "status(9)=0");
        TWINS.asks("side(4) " + twelve(1), "status(4)=12", "status(3)=0");
        TWINS.asks("side(4) " + twelve(3), "status(4)=12", "status(3)=0");
        TWINS.asks(NINE, "status(2)=20", "status(9)=8");
        TWINS.of(56, "12 to 16: REFUSALS -2 to -6");
        Run run = new Run("tree(0,0,0) show(0,0) 250*feed(32)");
        String[] calls = {"side(2)", "set(0,0,0)", "set(1,0,0)", "side(3)", "feed(0)"};
        for (int i = 0; i < 5; i++) {
            for (int times = 0; times <= i; times++) {
                CHECKS.due("56: refused " + calls[i], run.call(calls[i]), -2 - i);
            }
            for (int k = 0; k < 5; k++) {
                CHECKS.due("56: refusals " + (-2 - k) + " behind " + calls[i], run.call("status(" + (12 + k) + ")"), k <= i ? k + 1 : 0);
            }
        }
        run.call("image()");
        run.call("back()");
        run.call("wipe()");
        for (int k = 0; k < 5; k++) {
            CHECKS.due("56: refusals " + (-2 - k) + " behind back", run.call("status(" + (12 + k) + ")"), k + 1);
        }
    }
}
