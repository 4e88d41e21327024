/**
 * A garden of whole yards with trees by kinds, the rows they stand in, and what comes of it.
 * The numbered promises behind each method stand in the project's document.
 */
public final class NineTrees {
    public static final int NONE = -1;

    private static final int BAD = -2;
    private static final int OTHER = -3;
    private static final int NOTHING = -4;
    private static final int STUCK = -5;
    private static final int FULL = -6;

    private static final int TREE = 0;
    private static final int FIRM = 1;
    private static final int LOW = 2;
    private static final int OAK = 3;
    private static final int CHERRY = 4;
    private static final int SPRIG = 5;

    private static final int LEAST_SIDE = 3;
    private static final int MOST_SIDE = 8;
    private static final int MOST_KIND = 5;
    private static final int MOST_VALUE = 9;
    private static final int MOST_TREES = 12;
    private static final int MOST_WISHES = 8;
    private static final int MOST_SHELVES = 8;
    private static final int MOST_SORT = 4;
    private static final int MOST_ELEMENTS = 40;
    private static final int MOST_BYTES = 250;

    private final Garden ground = new Garden();
    private final Garden draft = new Garden();
    private final Garden kept = new Garden();
    private final RowList rows = new RowList();
    private final Crossings crossings = new Crossings();
    private final Moves moves = new Moves();
    private final Gap smallest = new Gap();
    private final Tape tape = new Tape();
    private final Shelf[] shelves = new Shelf[MOST_SHELVES];
    private final int[] refusals = new int[5];
    private boolean isKept;

    public NineTrees() {
        for (int s = 0; s < MOST_SHELVES; s++) {
            shelves[s] = new Shelf();
        }
    }

    // ---- shelves

    public int row(int s, int sort, int n) {
        Shelf shelf = shelfOf(s);
        if (shelf == null || sort < 0 || sort > MOST_SORT || n < 0 || n > MOST_ELEMENTS) {
            return refuse(BAD);
        }
        shelf.takeRow(sort, n);
        return 1;
    }

    public int set(int s, int i, long v) {
        Shelf shelf = shelfOf(s);
        if (shelf == null) {
            return refuse(BAD);
        }
        if (!shelf.hasRow()) {
            return refuse(shelf.whyNoRow());
        }
        if (!shelf.hasElement(i)) {
            return refuse(BAD);
        }
        shelf.elements[i] = shelf.fitted(v);
        return 1;
    }

    public int copy(int p, int q, int i, int j, int n) {
        Shelf from = shelfOf(p);
        Shelf to = shelfOf(q);
        if (from == null || to == null) {
            return refuse(BAD);
        }
        if (from.hasTree() || to.hasTree() || from.hasRow() && to.hasRow() && from.sort != to.sort) {
            return refuse(OTHER);
        }
        if (!from.hasRow() || !to.hasRow()) {
            return refuse(NOTHING);
        }
        if (!from.hasStretch(i, n) || !to.hasStretch(j, n)) {
            return refuse(BAD);
        }
        System.arraycopy(from.elements, i, to.elements, j, n);
        return n;
    }

    public long element(int s, int i) {
        Shelf shelf = shelfOf(s);
        return shelf == null || !shelf.hasElement(i) ? 0 : shelf.elements[i];
    }

    public int holds(int s) {
        Shelf shelf = shelfOf(s);
        if (shelf == null) {
            return NONE;
        }
        return shelf.hasTree() ? 10 + shelf.tree : shelf.sort;
    }

    public int show(int s, int tree) {
        Shelf shelf = shelfOf(s);
        if (shelf == null || tree != NONE && !ground.isTree(tree)) {
            return refuse(BAD);
        }
        shelf.takeTree(tree);
        return 1;
    }

    public int says(int s, int kind) {
        Shelf shelf = shelfOf(s);
        if (shelf == null || kind < 0 || kind > MOST_KIND) {
            return refuse(BAD);
        }
        if (shelf.hasRow() || shelf.hasTree() && !ground.isOf(shelf.tree, kind)) {
            return refuse(OTHER);
        }
        if (!shelf.hasTree()) {
            return refuse(NOTHING);
        }
        switch (kind) {
            case TREE:
                return allRows().countWith(shelf.tree, 3);
            case FIRM:
                return ground.wishesWith(shelf.tree);
            case LOW:
                return Sight.seers(ground, shelf.tree);
            case CHERRY:
                return Shapes.nearestTo(ground, shelf.tree);
            default:
                return ground.values[shelf.tree];
        }
    }

    // ---- the garden

    public int side(int n) {
        if (n < LEAST_SIDE || n > MOST_SIDE) {
            return refuse(BAD);
        }
        if (ground.trees > 0) {
            return refuse(STUCK);
        }
        int ahead = ground.side;
        ground.side = n;
        return ahead;
    }

    public int tree(int kind, int cell, int a) {
        if (kind < 0 || kind > MOST_KIND || !ground.isCell(cell) || a < 0 || a > MOST_VALUE) {
            return refuse(BAD);
        }
        if (!ground.isFree(cell)) {
            return refuse(STUCK);
        }
        if (ground.trees >= MOST_TREES) {
            return refuse(FULL);
        }
        ground.addTree(kind, cell, a);
        return ground.trees - 1;
    }

    public int wish(int set) {
        if (!ground.isSetOfThree(set)) {
            return refuse(BAD);
        }
        if (ground.wishes >= MOST_WISHES) {
            return refuse(FULL);
        }
        ground.addWish(set);
        return ground.wishes - 1;
    }

    public int content() {
        int ahead = ground.wishes;
        ground.wishes = 0;
        return ahead;
    }

    public int move(int tree, int cell) {
        int why = whyNoMove(tree, cell);
        if (why != 0) {
            return refuse(why);
        }
        int ahead = ground.cells[tree];
        ground.cells[tree] = cell;
        return ahead;
    }

    public int fell() {
        if (!ground.isLastFellable()) {
            return refuse(STUCK);
        }
        ground.dropLast();
        clearShelvesFrom(ground.trees);
        return ground.trees;
    }

    // ---- the tape

    public int feed(int letter) {
        if (letter < 0 || letter > 255) {
            return refuse(BAD);
        }
        if (tape.size >= MOST_BYTES) {
            return refuse(FULL);
        }
        tape.bytes[tape.size] = letter;
        tape.size++;
        return tape.size;
    }

    public int wipe() {
        int ahead = tape.size;
        tape.size = 0;
        return ahead;
    }

    public int garden() {
        draft.copyFrom(ground);
        int told = tape.readInto(draft);
        tape.size = 0;
        if (told < 0) {
            refuse(BAD);
            return told;
        }
        ground.copyFrom(draft);
        // A tree that was felled on the way has left its shelves, even if its number is in use again.
        clearShelvesFrom(tape.fewestTrees);
        return told;
    }

    // ---- rows

    public int treeOf(int tree, int what) {
        if (!ground.isTree(tree) || what < 0 || what > 4) {
            return refuse(BAD);
        }
        switch (what) {
            case 0:
                return ground.kinds[tree];
            case 1:
                return ground.cells[tree];
            case 2:
                return ground.values[tree];
            case 3:
                return allRows().countWith(tree, 2);
            default:
                return allRows().countWith(tree, 3);
        }
    }

    public int treeAt(int cell) {
        return ground.isCell(cell) ? ground.treeIn(cell) : refuse(BAD);
    }

    public int many(int k) {
        return isRowSize(k) ? allRows().countOf(k) : refuse(BAD);
    }

    public int threes() {
        return allRows().countThrees();
    }

    public int rowAt(int k, int i) {
        if (!isRowSize(k) || i < 0) {
            return refuse(BAD);
        }
        int found = allRows().pick(k, i);
        return found == 0 ? refuse(STUCK) : found;
    }

    public int longest() {
        int found = allRows().fullest();
        return found == 0 ? refuse(STUCK) : found;
    }

    public int alone() {
        return ground.allTrees() & ~allRows().treesInThrees();
    }

    public int through(int tree, int other) {
        if (!ground.isTree(tree) || !ground.isTree(other) || tree == other) {
            return refuse(BAD);
        }
        if (ground.isOf(tree, CHERRY) || ground.isOf(other, CHERRY)) {
            return refuse(STUCK);
        }
        return ground.rowOfTwo(tree, other);
    }

    public int inLine(int set) {
        if (!ground.isSetOfThree(set)) {
            return refuse(BAD);
        }
        return ground.isInOneRow(set) ? 1 : 0;
    }

    public int judge(int s, int n) {
        Shelf shelf = shelfOf(s);
        if (shelf == null || n < 0 || n > MOST_TREES) {
            return refuse(BAD);
        }
        if (!shelf.hasRow()) {
            return refuse(shelf.whyNoRow());
        }
        if (shelf.size < n) {
            return refuse(BAD);
        }
        return firstMisfit(shelf, n);
    }

    private int firstMisfit(Shelf told, int n) {
        int ahead = 0;
        for (int i = 0; i < n; i++) {
            long number = told.elements[i];
            // Tested as a long: a number of the longs must not fit by its lower half alone.
            if (number < 0 || number >= ground.trees) {
                return i;
            }
            int tree = (int) number;
            boolean isAhead = (ahead & 1 << tree) != 0;
            if (isAhead || ground.isOf(tree, CHERRY) || i >= 2 && !isInLineWithFirst(told, tree)) {
                return i;
            }
            ahead |= 1 << tree;
        }
        return NONE;
    }

    private boolean isInLineWithFirst(Shelf told, int tree) {
        int one = (int) told.elements[0];
        int other = (int) told.elements[1];
        return ground.isTree(one) && ground.isTree(other)
                && ground.doubleArea(ground.cells[one], ground.cells[other], ground.cells[tree]) == 0;
    }

    // ---- what comes of it

    public int gap(int what) {
        if (what < 0 || what > 1) {
            return refuse(BAD);
        }
        smallest.find(ground, allRows());
        if (smallest.tree == NONE) {
            return refuse(STUCK);
        }
        return what == 0 ? smallest.row : smallest.tree;
    }

    public int missed(int tree) {
        return ground.isTree(tree) ? allRows().countOnlyBy(tree) : refuse(BAD);
    }

    public int least() {
        if (ground.trees == 0) {
            return refuse(STUCK);
        }
        allRows();
        int found = 0;
        for (int t = 1; t < ground.trees; t++) {
            if (rows.countOnlyBy(t) < rows.countOnlyBy(found)) {
                found = t;
            }
        }
        return found;
    }

    public int best(int what) {
        if (what < 0 || what > 2) {
            return refuse(BAD);
        }
        moves.findMostThrees(ground, allRows());
        return moves.tell(what);
    }

    public int moved(int tree, int cell) {
        int why = whyNoMove(tree, cell);
        return why == 0 ? moves.threesBy(ground, allRows(), tree, cell) : refuse(why);
    }

    public long may() {
        crossings.countRows(ground, allRows(), 2);
        long bits = 0;
        for (int cell = 0; cell < ground.cellCount(); cell++) {
            if (ground.isFree(cell) && crossings.counts[cell] == 0) {
                bits |= 1L << cell;
            }
        }
        return bits;
    }

    public int most(int m) {
        if (m < 1 || m > 5) {
            return refuse(BAD);
        }
        // Two in each row are the most there can be, and on sides of 2 to 5 so many can stand.
        return m == 1 ? 1 : 2 * m;
    }

    public int view(int cell) {
        return ground.isCell(cell) ? Sight.seenFrom(ground, cell) : refuse(BAD);
    }

    public long overlooks() {
        long bits = 0;
        for (int cell = 0; cell < ground.cellCount(); cell++) {
            if (ground.isFree(cell) && Sight.areAllSeen(ground, cell)) {
                bits |= 1L << cell;
            }
        }
        return bits;
    }

    public int behind(int tree, int cell) {
        if (!ground.isTree(tree) || !ground.isCell(cell) || ground.cells[tree] == cell) {
            return refuse(BAD);
        }
        return Sight.hider(ground, tree, cell);
    }

    public int paths(int slope) {
        return slope < 0 || slope > 3 ? refuse(BAD) : Shapes.freeLines(ground, slope);
    }

    public int wishOf(int i) {
        return ground.isWish(i) ? ground.wishSets[i] : refuse(BAD);
    }

    public int met(int i) {
        if (i == NONE) {
            return ground.wishesMet();
        }
        if (!ground.isWish(i)) {
            return refuse(BAD);
        }
        return ground.isInOneRow(ground.wishSets[i]) ? 1 : 0;
    }

    public int bestFor(int what) {
        if (what < 0 || what > 2) {
            return refuse(BAD);
        }
        moves.findMostWishes(ground);
        return moves.tell(what);
    }

    public int alike() {
        return Shapes.ownImages(ground);
    }

    public int middle() {
        return ground.trees == 0 ? refuse(STUCK) : Shapes.cellNearestToAll(ground);
    }

    public int nearest() {
        return ground.trees < 2 ? refuse(STUCK) : Shapes.nearestPair(ground);
    }

    public int largest() {
        return Shapes.greatestArea(ground);
    }

    public int squares() {
        return Shapes.countSquares(ground);
    }

    public int corners() {
        int bits = 0;
        for (int t = 0; t < ground.trees; t++) {
            if (Shapes.isCorner(ground, t)) {
                bits |= 1 << t;
            }
        }
        return bits;
    }

    public int pointed(int cell) {
        if (!ground.isCell(cell)) {
            return refuse(BAD);
        }
        crossings.countRows(ground, allRows(), 3);
        return crossings.counts[cell];
    }

    // ---- in truth

    public int turn() {
        for (int t = 0; t < ground.trees; t++) {
            ground.cells[t] = ground.turned(ground.cells[t]);
        }
        return ground.countOf(FIRM);
    }

    public int mirror() {
        for (int t = 0; t < ground.trees; t++) {
            ground.cells[t] = ground.mirrored(ground.cells[t]);
        }
        return ground.countOf(FIRM);
    }

    public int improve() {
        int now = allRows().countThrees();
        moves.findMostThrees(ground, rows);
        if (moves.tree == NONE || moves.reached <= now) {
            return now;
        }
        ground.cells[moves.tree] = moves.cell;
        return moves.reached;
    }

    public int plant(int n) {
        if (n < 1 || n > MOST_TREES) {
            return refuse(BAD);
        }
        int planted = 0;
        while (planted < n && ground.hasRoom()) {
            ground.addByDraws();
            planted++;
        }
        return planted;
    }

    public int seed(int v) {
        int ahead = ground.seed;
        ground.seed = v;
        return ahead;
    }

    public int image() {
        kept.copyFrom(ground);
        isKept = true;
        return 1;
    }

    public int back() {
        if (!isKept) {
            return refuse(STUCK);
        }
        ground.copyFrom(kept);
        clearShelvesFrom(ground.trees);
        return 1;
    }

    public int status(int what) {
        switch (what) {
            case 0:
                return ground.side;
            case 1:
                return ground.trees;
            case 2:
                return allRows().count;
            case 3:
                return ground.countOf(CHERRY);
            case 4:
                return ground.countOf(FIRM);
            case 5:
                return ground.wishes;
            case 6:
                return tape.size;
            case 7:
                return ground.seed;
            case 8:
                return fullShelves();
            case 9:
                return allRows().countThrees();
            default:
                return what >= 12 && what <= 16 ? refusals[what - 12] : NONE;
        }
    }

    // ---- what several calls need

    private int refuse(int why) {
        int place = BAD - why;
        if (place >= 0 && place < refusals.length) {
            refusals[place]++;
        }
        return why;
    }

    private Shelf shelfOf(int s) {
        return s < 0 || s >= shelves.length ? null : shelves[s];
    }

    private int fullShelves() {
        int full = 0;
        for (int s = 0; s < shelves.length; s++) {
            Shelf shelf = shelfOf(s);
            if (shelf != null && (shelf.hasRow() || shelf.hasTree())) {
                full++;
            }
        }
        return full;
    }

    private void clearShelvesFrom(int tree) {
        for (int s = 0; s < shelves.length; s++) {
            Shelf shelf = shelfOf(s);
            if (shelf != null && shelf.tree >= tree) {
                shelf.takeTree(NONE);
            }
        }
    }

    private RowList allRows() {
        rows.gather(ground);
        return rows;
    }

    private static boolean isRowSize(int k) {
        return k >= 2 && k <= MOST_TREES;
    }

    /** The first tree of a set, or a number that no tree has. */
    private static int firstOf(int set) {
        return Integer.numberOfTrailingZeros(set);
    }

    /** The second tree of a set, or a number that no tree has. */
    private static int secondOf(int set) {
        return Integer.numberOfTrailingZeros(set & set - 1);
    }

    /** 0: the move may be. */
    private int whyNoMove(int tree, int cell) {
        if (!ground.isTree(tree) || !ground.isCell(cell)) {
            return BAD;
        }
        return ground.isMovable(tree) && ground.isFree(cell) ? 0 : STUCK;
    }

    /** What image() keeps: the side, the trees, the wishes and the seed. */
    private static final class Garden {
        final int[] kinds = new int[MOST_TREES];
        final int[] cells = new int[MOST_TREES];
        final int[] values = new int[MOST_TREES];
        final int[] wishSets = new int[MOST_WISHES];
        int side = 5;
        int trees;
        int wishes;
        int seed = 1;

        void copyFrom(Garden other) {
            System.arraycopy(other.kinds, 0, kinds, 0, MOST_TREES);
            System.arraycopy(other.cells, 0, cells, 0, MOST_TREES);
            System.arraycopy(other.values, 0, values, 0, MOST_TREES);
            System.arraycopy(other.wishSets, 0, wishSets, 0, MOST_WISHES);
            side = other.side;
            trees = other.trees;
            wishes = other.wishes;
            seed = other.seed;
        }

        // -- cells

        int cellCount() {
            return side * side;
        }

        boolean isCell(int cell) {
            return cell >= 0 && cell < cellCount();
        }

        int rowOf(int cell) {
            return side < 1 ? 0 : cell / side;
        }

        int columnOf(int cell) {
            return side < 1 ? 0 : cell % side;
        }

        int cellOf(int row, int column) {
            boolean isInside = row >= 0 && row < side && column >= 0 && column < side;
            return isInside ? row * side + column : NONE;
        }

        int turned(int cell) {
            return cellOf(columnOf(cell), side - 1 - rowOf(cell));
        }

        int mirrored(int cell) {
            return cellOf(rowOf(cell), side - 1 - columnOf(cell));
        }

        /** Rows and columns apart. */
        int distance(int one, int other) {
            return Math.abs(rowOf(one) - rowOf(other)) + Math.abs(columnOf(one) - columnOf(other));
        }

        int squaredLength(int one, int other) {
            int down = rowOf(one) - rowOf(other);
            int along = columnOf(one) - columnOf(other);
            return down * down + along * along;
        }

        /** Twice the area of a triangle, with a sign for the way round. */
        int doubleArea(int a, int b, int c) {
            int row = rowOf(a);
            int column = columnOf(a);
            return (rowOf(b) - row) * (columnOf(c) - column) - (columnOf(b) - column) * (rowOf(c) - row);
        }

        boolean isBetween(int cell, int one, int other) {
            if (doubleArea(cell, one, other) != 0) {
                return false;
            }
            int down = (rowOf(one) - rowOf(cell)) * (rowOf(other) - rowOf(cell));
            int along = (columnOf(one) - columnOf(cell)) * (columnOf(other) - columnOf(cell));
            return down + along < 0;
        }

        // -- trees

        boolean isTree(int tree) {
            return tree >= 0 && tree < trees;
        }

        int allTrees() {
            return (1 << trees) - 1;
        }

        int treeIn(int cell) {
            for (int t = 0; t < trees; t++) {
                if (cells[t] == cell) {
                    return t;
                }
            }
            return NONE;
        }

        boolean isFree(int cell) {
            return treeIn(cell) == NONE;
        }

        boolean isOf(int tree, int kind) {
            int own = kinds[tree];
            return own == kind || kind == TREE || own == OAK && kind == FIRM || own == SPRIG && kind == LOW;
        }

        int countOf(int kind) {
            int count = 0;
            for (int t = 0; t < trees; t++) {
                if (isOf(t, kind)) {
                    count++;
                }
            }
            return count;
        }

        boolean isMovable(int tree) {
            return !isOf(tree, FIRM);
        }

        boolean hasRoom() {
            return trees < MOST_TREES && trees < cellCount();
        }

        void addTree(int kind, int cell, int value) {
            if (trees < MOST_TREES) {
                kinds[trees] = kind;
                cells[trees] = cell;
                values[trees] = value;
                trees++;
            }
        }

        boolean isLastFellable() {
            return trees > 0 && wishesWith(trees - 1) == 0;
        }

        void dropLast() {
            if (trees > 0) {
                trees--;
            }
        }

        // -- rows

        /** All trees but cherries in line with two. */
        int rowOfTwo(int one, int other) {
            int bits = 0;
            for (int t = 0; t < trees; t++) {
                if (!isOf(t, CHERRY) && doubleArea(cells[one], cells[other], cells[t]) == 0) {
                    bits |= 1 << t;
                }
            }
            return bits;
        }

        boolean isSetOfThree(int set) {
            return (set & ~allTrees()) == 0 && Integer.bitCount(set) >= 3;
        }

        /** Whether a set of two trees or more stands in one row. */
        boolean isInOneRow(int set) {
            int one = firstOf(set);
            int other = secondOf(set);
            return isTree(one) && isTree(other) && (set & ~rowOfTwo(one, other)) == 0;
        }

        // -- wishes

        boolean isWish(int i) {
            return i >= 0 && i < wishes;
        }

        void addWish(int set) {
            if (wishes < MOST_WISHES) {
                wishSets[wishes] = set;
                wishes++;
            }
        }

        int wishesWith(int tree) {
            int count = 0;
            for (int i = 0; i < wishes; i++) {
                if ((wishSets[i] & 1 << tree) != 0) {
                    count++;
                }
            }
            return count;
        }

        int wishesMet() {
            int count = 0;
            for (int i = 0; i < wishes; i++) {
                if (isInOneRow(wishSets[i])) {
                    count++;
                }
            }
            return count;
        }

        // -- draws

        int drawBelow(int n) {
            seed = seed * 1103515245 + 12345;
            return n < 1 ? 0 : (seed >>> 16) % n;
        }

        int nextFree(int cell) {
            int found = cell;
            for (int step = 0; step < cellCount() && !isFree(found); step++) {
                found = found + 1 < cellCount() ? found + 1 : 0;
            }
            return found;
        }

        void addByDraws() {
            int kind = drawBelow(MOST_KIND + 1);
            int cell = nextFree(drawBelow(cellCount()));
            addTree(kind, cell, drawBelow(MOST_VALUE + 1));
        }
    }

    /** The rows of a garden as sets of trees, the least first. */
    private static final class RowList {
        // Each row has a pair of its own among 12 trees, so there are 66 at most.
        final int[] sets = new int[MOST_TREES * (MOST_TREES - 1) / 2];
        int count;

        void gather(Garden garden) {
            count = 0;
            for (int one = 0; one < garden.trees; one++) {
                for (int other = one + 1; other < garden.trees; other++) {
                    int set = garden.rowOfTwo(one, other);
                    // Each row comes once: by the first two that stand in it; no cherry does.
                    if (firstOf(set) == one && secondOf(set) == other) {
                        insert(set);
                    }
                }
            }
        }

        private void insert(int set) {
            if (count >= sets.length) {
                return;
            }
            int place = count;
            while (place > 0 && sets[place - 1] > set) {
                sets[place] = sets[place - 1];
                place--;
            }
            sets[place] = set;
            count++;
        }

        int countOf(int k) {
            int found = 0;
            for (int i = 0; i < count; i++) {
                if (Integer.bitCount(sets[i]) == k) {
                    found++;
                }
            }
            return found;
        }

        int countThrees() {
            return count - countOf(2);
        }

        /** Rows of so many trees at least in which a tree is. */
        int countWith(int tree, int fewest) {
            int found = 0;
            for (int i = 0; i < count; i++) {
                if ((sets[i] & 1 << tree) != 0 && Integer.bitCount(sets[i]) >= fewest) {
                    found++;
                }
            }
            return found;
        }

        /** Rows of just three with a tree: longer ones are rows of three or more without it, too. */
        int countOnlyBy(int tree) {
            return countWith(tree, 3) - countWith(tree, 4);
        }

        int treesInThrees() {
            int bits = 0;
            for (int i = 0; i < count; i++) {
                if (Integer.bitCount(sets[i]) >= 3) {
                    bits |= sets[i];
                }
            }
            return bits;
        }

        /** The i-th row of just k trees; 0: not so many. */
        int pick(int k, int i) {
            int ahead = 0;
            for (int place = 0; place < count; place++) {
                if (Integer.bitCount(sets[place]) == k) {
                    if (ahead == i) {
                        return sets[place];
                    }
                    ahead++;
                }
            }
            return 0;
        }

        /** The first row of the most trees; 0: there is none. */
        int fullest() {
            int found = 0;
            for (int i = 0; i < count; i++) {
                if (Integer.bitCount(sets[i]) > Integer.bitCount(found)) {
                    found = sets[i];
                }
            }
            return found;
        }
    }

    /** The row and the tree off it with the smallest distance. */
    private static final class Gap {
        int row;
        int tree = NONE;
        private int over;
        private int under;

        void find(Garden garden, RowList rows) {
            tree = NONE;
            for (int i = 0; i < rows.count; i++) {
                for (int t = 0; t < garden.trees; t++) {
                    if ((rows.sets[i] & 1 << t) == 0 && !garden.isOf(t, CHERRY)) {
                        offer(garden, rows.sets[i], t);
                    }
                }
            }
        }

        private void offer(Garden garden, int set, int t) {
            int one = firstOf(set);
            int other = secondOf(set);
            if (!garden.isTree(one) || !garden.isTree(other)) {
                return;
            }
            int area = garden.doubleArea(garden.cells[one], garden.cells[other], garden.cells[t]);
            int length = garden.squaredLength(garden.cells[one], garden.cells[other]);
            // Multiplied crosswise: quotients would not be exact.
            if (tree == NONE || area * area * under < over * length) {
                row = set;
                tree = t;
                over = area * area;
                under = length;
            }
        }
    }

    /** Of how many rows the lines go through each cell. */
    private static final class Crossings {
        final int[] counts = new int[MOST_SIDE * MOST_SIDE];

        void clear() {
            for (int cell = 0; cell < counts.length; cell++) {
                counts[cell] = 0;
            }
        }

        /** Of all rows of so many trees at least. */
        void countRows(Garden garden, RowList rows, int fewest) {
            clear();
            for (int i = 0; i < rows.count; i++) {
                if (Integer.bitCount(rows.sets[i]) >= fewest) {
                    addLine(garden, rows.sets[i]);
                }
            }
        }

        void addLine(Garden garden, int set) {
            int one = firstOf(set);
            int other = secondOf(set);
            if (!garden.isTree(one) || !garden.isTree(other)) {
                return;
            }
            int row = garden.rowOf(garden.cells[one]);
            int column = garden.columnOf(garden.cells[one]);
            int down = garden.rowOf(garden.cells[other]) - row;
            int along = garden.columnOf(garden.cells[other]) - column;
            // The shortest step along the line, so that no cell on it is passed over.
            for (int parts = MOST_SIDE; parts > 1; parts--) {
                if (down % parts == 0 && along % parts == 0) {
                    down /= parts;
                    along /= parts;
                }
            }
            for (int step = -MOST_SIDE; step <= MOST_SIDE; step++) {
                int cell = garden.cellOf(row + step * down, column + step * along);
                if (cell != NONE) {
                    counts[cell]++;
                }
            }
        }
    }

    /** The best of all moves; the tree is NONE if none can be moved. */
    private static final class Moves {
        private final Crossings added = new Crossings();
        private int left;
        int tree = NONE;
        int cell = NONE;
        int reached = NONE;

        void findMostThrees(Garden garden, RowList rows) {
            forget();
            for (int t = 0; t < garden.trees; t++) {
                if (garden.isMovable(t)) {
                    weighThrees(garden, rows, t);
                    offerCells(garden, t);
                }
            }
        }

        void findMostWishes(Garden garden) {
            forget();
            for (int t = 0; t < garden.trees; t++) {
                if (garden.isMovable(t)) {
                    weighWishes(garden, t);
                    offerCells(garden, t);
                }
            }
        }

        int threesBy(Garden garden, RowList rows, int t, int c) {
            weighThrees(garden, rows, t);
            return left + added.counts[c];
        }

        /** What is left of the threes without a tree, and how many more there are by it in each cell. */
        private void weighThrees(Garden garden, RowList rows, int t) {
            left = 0;
            added.clear();
            for (int i = 0; i < rows.count; i++) {
                int others = rows.sets[i] & ~(1 << t);
                int size = Integer.bitCount(others);
                if (size >= 3) {
                    left++;
                } else if (size == 2 && !garden.isOf(t, CHERRY)) {
                    added.addLine(garden, others);
                }
            }
        }

        /** Which wishes are met without regard to a tree, and how many more are by it in each cell. */
        private void weighWishes(Garden garden, int t) {
            left = 0;
            added.clear();
            for (int i = 0; i < garden.wishes; i++) {
                int others = garden.wishSets[i] & ~(1 << t);
                if (garden.isInOneRow(others)) {
                    if (others == garden.wishSets[i]) {
                        left++;
                    } else if (!garden.isOf(t, CHERRY)) {
                        added.addLine(garden, others);
                    }
                }
            }
        }

        private void forget() {
            tree = NONE;
            cell = NONE;
            reached = NONE;
        }

        private void offerCells(Garden garden, int t) {
            for (int c = 0; c < garden.cellCount(); c++) {
                if (left + added.counts[c] > reached && garden.isFree(c)) {
                    tree = t;
                    cell = c;
                    reached = left + added.counts[c];
                }
            }
        }

        int tell(int what) {
            if (what == 0) {
                return tree;
            }
            return what == 1 ? cell : reached;
        }
    }

    /** What is seen from where. */
    private static final class Sight {
        /** Of the trees that hide a tree from a cell the nearest to the cell. */
        static int hider(Garden garden, int tree, int cell) {
            int found = NONE;
            for (int t = 0; t < garden.trees; t++) {
                if (!garden.isOf(t, LOW) && garden.isBetween(garden.cells[t], garden.cells[tree], cell)
                        && (found == NONE || isNearer(garden, t, found, cell))) {
                    found = t;
                }
            }
            return found;
        }

        private static boolean isNearer(Garden garden, int one, int other, int cell) {
            return garden.distance(garden.cells[one], cell) < garden.distance(garden.cells[other], cell);
        }

        static boolean isSeen(Garden garden, int tree, int cell) {
            return garden.cells[tree] != cell && hider(garden, tree, cell) == NONE;
        }

        static int seenFrom(Garden garden, int cell) {
            int bits = 0;
            for (int t = 0; t < garden.trees; t++) {
                if (isSeen(garden, t, cell)) {
                    bits |= 1 << t;
                }
            }
            return bits;
        }

        static boolean areAllSeen(Garden garden, int cell) {
            for (int t = 0; t < garden.trees; t++) {
                if (!isSeen(garden, t, cell)) {
                    return false;
                }
            }
            return true;
        }

        /** From how many other trees' cells a tree is seen. */
        static int seers(Garden garden, int tree) {
            int count = 0;
            for (int t = 0; t < garden.trees; t++) {
                if (isSeen(garden, tree, garden.cells[t])) {
                    count++;
                }
            }
            return count;
        }
    }

    /** Distances, areas and images of the cells in which trees stand, whatever their kinds. */
    private static final class Shapes {
        static int nearestTo(Garden garden, int tree) {
            int least = 0;
            for (int t = 0; t < garden.trees; t++) {
                int apart = garden.distance(garden.cells[t], garden.cells[tree]);
                if (t != tree && (least == 0 || apart < least)) {
                    least = apart;
                }
            }
            return least;
        }

        static int nearestPair(Garden garden) {
            int least = NONE;
            int pair = NONE;
            for (int one = 0; one < garden.trees; one++) {
                for (int other = one + 1; other < garden.trees; other++) {
                    int apart = garden.distance(garden.cells[one], garden.cells[other]);
                    if (least == NONE || apart < least) {
                        least = apart;
                        pair = 100 * one + other;
                    }
                }
            }
            return pair;
        }

        static int cellNearestToAll(Garden garden) {
            int found = 0;
            for (int cell = 1; cell < garden.cellCount(); cell++) {
                if (sumOfDistances(garden, cell) < sumOfDistances(garden, found)) {
                    found = cell;
                }
            }
            return found;
        }

        private static int sumOfDistances(Garden garden, int cell) {
            int sum = 0;
            for (int t = 0; t < garden.trees; t++) {
                sum += garden.distance(garden.cells[t], cell);
            }
            return sum;
        }

        static int freeLines(Garden garden, int slope) {
            int taken = 0;
            for (int t = 0; t < garden.trees; t++) {
                taken |= 1 << lineOf(garden, garden.cells[t], slope);
            }
            int lines = slope < 2 ? garden.side : 2 * garden.side - 1;
            return lines - Integer.bitCount(taken);
        }

        private static int lineOf(Garden garden, int cell, int slope) {
            int row = garden.rowOf(cell);
            int column = garden.columnOf(cell);
            switch (slope) {
                case 0:
                    return row;
                case 1:
                    return column;
                case 2:
                    return row - column + garden.side - 1;
                default:
                    return row + column;
            }
        }

        static int ownImages(Garden garden) {
            int count = 0;
            for (int turns = 0; turns < 4; turns++) {
                if (isOwnImage(garden, turns, false)) {
                    count++;
                }
                if (isOwnImage(garden, turns, true)) {
                    count++;
                }
            }
            return count;
        }

        private static boolean isOwnImage(Garden garden, int turns, boolean isMirrored) {
            // No two trees have one image, so it is enough that each image is taken.
            for (int t = 0; t < garden.trees; t++) {
                int cell = garden.cells[t];
                for (int turn = 0; turn < turns; turn++) {
                    cell = garden.turned(cell);
                }
                if (garden.isFree(isMirrored ? garden.mirrored(cell) : cell)) {
                    return false;
                }
            }
            return true;
        }

        static int greatestArea(Garden garden) {
            int[] cells = garden.cells;
            int greatest = 0;
            for (int a = 0; a < garden.trees; a++) {
                for (int b = a + 1; b < garden.trees; b++) {
                    for (int c = b + 1; c < garden.trees; c++) {
                        greatest = Math.max(greatest, Math.abs(garden.doubleArea(cells[a], cells[b], cells[c])));
                    }
                }
            }
            return greatest;
        }

        static int countSquares(Garden garden) {
            int edges = 0;
            for (int one = 0; one < garden.trees; one++) {
                for (int other = 0; other < garden.trees; other++) {
                    if (one != other && isEdgeOfSquare(garden, garden.cells[one], garden.cells[other])) {
                        edges++;
                    }
                }
            }
            // Seen along its edges one way round, each square lies on the same hand of all four.
            return edges / 4;
        }

        private static boolean isEdgeOfSquare(Garden garden, int one, int other) {
            int down = garden.rowOf(other) - garden.rowOf(one);
            int along = garden.columnOf(other) - garden.columnOf(one);
            return isTaken(garden, garden.rowOf(one) - along, garden.columnOf(one) + down)
                    && isTaken(garden, garden.rowOf(other) - along, garden.columnOf(other) + down);
        }

        private static boolean isTaken(Garden garden, int row, int column) {
            int cell = garden.cellOf(row, column);
            return cell != NONE && !garden.isFree(cell);
        }

        static boolean isCorner(Garden garden, int tree) {
            int cell = garden.cells[tree];
            for (int a = 0; a < garden.trees; a++) {
                for (int b = a + 1; b < garden.trees; b++) {
                    if (garden.isBetween(cell, garden.cells[a], garden.cells[b])
                            || isInTriangleOnto(garden, tree, a, b)) {
                        return false;
                    }
                }
            }
            return true;
        }

        /** Whether a tree is in a triangle of two others and one behind them. */
        private static boolean isInTriangleOnto(Garden garden, int tree, int a, int b) {
            if (tree == a || tree == b) {
                return false;
            }
            int[] cells = garden.cells;
            for (int c = b + 1; c < garden.trees; c++) {
                if (c != tree && garden.doubleArea(cells[a], cells[b], cells[c]) != 0
                        && isOnOneHand(garden, cells[tree], cells[a], cells[b], cells[c])) {
                    return true;
                }
            }
            return false;
        }

        /** A cell in a triangle or at its edge has all edges, one way round, on the same hand. */
        private static boolean isOnOneHand(Garden garden, int cell, int a, int b, int c) {
            int first = garden.doubleArea(a, b, cell);
            int second = garden.doubleArea(b, c, cell);
            int third = garden.doubleArea(c, a, cell);
            boolean isLeft = first >= 0 && second >= 0 && third >= 0;
            boolean isRight = first <= 0 && second <= 0 && third <= 0;
            return isLeft || isRight;
        }
    }

    /** Holds nothing, a row of numbers, or a tree. */
    private static final class Shelf {
        final long[] elements = new long[MOST_ELEMENTS];
        int sort = NONE;
        int size;
        int tree = NONE;

        boolean hasRow() {
            return sort != NONE;
        }

        boolean hasTree() {
            return tree != NONE;
        }

        int whyNoRow() {
            return hasTree() ? OTHER : NOTHING;
        }

        boolean hasElement(int i) {
            return i >= 0 && i < size;
        }

        boolean hasStretch(int from, int n) {
            // Less, not more, on the right side: from and n could be beyond all ints together.
            return from >= 0 && n >= 0 && from <= size - n;
        }

        void takeRow(int newSort, int n) {
            sort = newSort;
            size = n;
            tree = NONE;
            for (int i = 0; i < elements.length; i++) {
                elements[i] = 0;
            }
        }

        /** NONE: it holds nothing then. */
        void takeTree(int number) {
            sort = NONE;
            size = 0;
            tree = number;
        }

        long fitted(long v) {
            switch (sort) {
                case 0:
                    return (byte) v;
                case 1:
                    return (short) v;
                case 2:
                    return (int) v;
                case 3:
                    return v;
                default:
                    return v != 0 ? 1 : 0;
            }
        }
    }

    /** The bytes of a told garden, read token by token. */
    private static final class Tape {
        private static final int END = 0;
        private static final int WORD = 1;
        private static final int NUMBER = 2;
        private static final int SIGN = 3;
        private static final int STRANGE = 4;
        private static final int BLANK = 32;

        final int[] bytes = new int[MOST_BYTES];
        int size;
        int fewestTrees;
        private int token;
        private int start;
        private int end;
        private int number;

        /** How many statements came to a garden; -20 less the fault, and the garden is spoilt then. */
        int readInto(Garden garden) {
            fewestTrees = garden.trees;
            end = 0;
            advance();
            for (int told = 1; told <= MOST_BYTES; told++) {
                if (token != WORD || !readStatement(garden)) {
                    return -20 - start;
                }
                if (token == END) {
                    return told;
                }
                if (token != SIGN) {
                    return -20 - start;
                }
                advance();
            }
            return -20 - start;
        }

        /**
         * Whether a statement could be read: then the token behind it is the one at hand,
         * otherwise the one that can't stand there is.
         */
        private boolean readStatement(Garden garden) {
            if (isWord("side")) {
                return readSide(garden);
            }
            if (isWord("tree")) {
                return readTree(garden);
            }
            if (isWord("wish")) {
                return readWish(garden);
            }
            if (isWord("move")) {
                return readMove(garden);
            }
            return isWord("fell") && readFell(garden);
        }

        private boolean readSide(Garden garden) {
            if (garden.trees > 0 || !advanceToNumber(LEAST_SIDE, MOST_SIDE)) {
                return false;
            }
            garden.side = number;
            advance();
            return true;
        }

        private boolean readTree(Garden garden) {
            if (garden.trees >= MOST_TREES || !advanceToNumber(0, MOST_KIND)) {
                return false;
            }
            int kind = number;
            if (!advanceToNumber(0, garden.cellCount() - 1) || !garden.isFree(number)) {
                return false;
            }
            int cell = number;
            if (!advanceToNumber(0, MOST_VALUE)) {
                return false;
            }
            garden.addTree(kind, cell, number);
            advance();
            return true;
        }

        private boolean readWish(Garden garden) {
            if (garden.wishes >= MOST_WISHES) {
                return false;
            }
            int set = 0;
            // One round more than there can be trees: what is behind the last is looked at, too.
            for (int told = 0; told <= MOST_TREES; told++) {
                advance();
                if (told >= 3 && token != NUMBER) {
                    break;
                }
                if (!isNumber(0, garden.trees - 1) || (set & 1 << number) != 0) {
                    return false;
                }
                set |= 1 << number;
            }
            garden.addWish(set);
            return true;
        }

        private boolean readMove(Garden garden) {
            if (!advanceToNumber(0, garden.trees - 1) || !garden.isMovable(number)) {
                return false;
            }
            int tree = number;
            if (!advanceToNumber(0, garden.cellCount() - 1) || !garden.isFree(number)) {
                return false;
            }
            garden.cells[tree] = number;
            advance();
            return true;
        }

        private boolean readFell(Garden garden) {
            if (!garden.isLastFellable()) {
                return false;
            }
            garden.dropLast();
            fewestTrees = Math.min(fewestTrees, garden.trees);
            advance();
            return true;
        }

        private boolean advanceToNumber(int least, int greatest) {
            advance();
            return isNumber(least, greatest);
        }

        private boolean isNumber(int least, int greatest) {
            return token == NUMBER && number >= least && number <= greatest;
        }

        private boolean isWord(String word) {
            if (end - start != word.length()) {
                return false;
            }
            for (int i = 0; i < word.length(); i++) {
                if (bytes[start + i] != word.charAt(i)) {
                    return false;
                }
            }
            return true;
        }

        private void advance() {
            start = end;
            while (start < size && bytes[start] == BLANK) {
                start++;
            }
            token = typeAt(start);
            end = token == END ? start : start + 1;
            if (token == WORD || token == NUMBER) {
                while (end < size && typeAt(end) == token) {
                    end++;
                }
            }
            number = token == NUMBER ? valueOfDigits() : NONE;
        }

        private int typeAt(int place) {
            if (place >= size) {
                return END;
            }
            int letter = bytes[place];
            if (letter >= 'a' && letter <= 'z') {
                return WORD;
            }
            if (letter >= '0' && letter <= '9') {
                return NUMBER;
            }
            return letter == ';' ? SIGN : STRANGE;
        }

        /** NONE: more than two digits, which is no number that may be anywhere. */
        private int valueOfDigits() {
            if (end - start > 2) {
                return NONE;
            }
            int value = 0;
            for (int i = start; i < end; i++) {
                value = 10 * value + bytes[i] - '0';
            }
            return value;
        }
    }
}
