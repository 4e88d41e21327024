/** Promises 35 to 38 and 42 to 48: sight, paths, images, distances, areas. */
public final class ShapesTest {
    private static final Checks CHECKS = new Checks("ShapesTest");
    private static final String NINE = "side 3;tree 0 0 0;tree 1 1 0;tree 2 2 0;tree 3 3 0;tree 0 4 0;tree 5 5 0;"
        + "tree 0 6 0;tree 4 7 0;tree 0 8 0";

    public static void main(String[] args) {
        view();
        viewByKinds();
        overlooks();
        behind();
        paths();
        alike();
        middle();
        nearest();
        largest();
        squares();
        corners();
        pointed();
        CHECKS.finish();
    }

    private static void due(String call, long got, long want) {
        CHECKS.due(call, got, want);
    }

    private static void view() {
        NineTrees x = new NineTrees();
        due("35: no trees", x.view(0), 0);
        due("35: no cell", x.view(25), -2);
        due("35: no cell", x.view(-1), -2);
        due("35: refusals", x.status(12), 2);
        NineTrees y = Checks.planted("tree 0 0 0;tree 0 7 0;tree 0 14 0;tree 0 4 0");
        due("35: askew, hidden", y.view(14), 0b1010);
        due("35: not its own cell", y.view(0), 0b1010);
        due("35: beside the line", y.view(13), 0b1111);
        due("35: between two", y.view(7), 0b1101);
        due("35: along the row", y.view(1), 0b1111);
        NineTrees z = Checks.planted("tree 0 0 0;tree 0 1 0;tree 0 2 0;tree 0 3 0");
        due("35: only the next", z.view(4), 0b1000);
        due("35: the next on both hands", z.view(1), 0b0101);
    }

    private static void viewByKinds() {
        boolean[] hides = {true, true, false, true, true, false};
        for (int kind = 0; kind < 6; kind++) {
            NineTrees x = Checks.planted("tree 4 10 0;tree " + kind + " 12 0;tree 2 14 0");
            due("35: across kind " + kind, x.view(13), hides[kind] ? 0b110 : 0b111);
            due("35: across kind " + kind, x.view(10), hides[kind] ? 0b010 : 0b110);
            due("37: behind kind " + kind, x.behind(0, 13), hides[kind] ? 1 : -1);
        }
    }

    private static void overlooks() {
        NineTrees x = new NineTrees();
        due("36: no trees", x.overlooks(), 33554431);
        x.side(8);
        due("36: no trees, 64 cells", x.overlooks(), -1L);
        due("36: one tree", Checks.planted("side 3;tree 0 4 0").overlooks(), 511 & ~16);
        // Two in row 0: from cell 2 the first is hidden, from all below both are seen.
        due("36: two trees", Checks.planted("side 3;tree 0 0 0;tree 0 1 0").overlooks(), 0b111111000);
        due("36: the near one low", Checks.planted("side 3;tree 0 0 0;tree 2 1 0").overlooks(), 0b111111100);
        due("36: all taken", Checks.planted(NINE).overlooks(), 0);
        due("36: cell 63", Checks.planted("side 8;tree 0 54 0;tree 2 9 0").overlooks(), ~(1L << 54 | 1L << 9 | 1L << 63));
    }

    private static void behind() {
        NineTrees x = Checks.planted("tree 0 0 0;tree 0 1 0;tree 4 3 0;tree 2 2 0;tree 0 10 0");
        due("37: the nearest to the cell", x.behind(0, 4), 2);
        due("37: of the other", x.behind(2, 0), 1);
        due("37: to a free cell", x.behind(2, 4), -1);
        due("37: a low one alone", x.behind(1, 3), -1);
        due("37: beyond it", x.behind(4, 0), -1);
        due("37: not in line", x.behind(4, 24), -1);
        due("37: NONE isn't refused", x.status(12), 0);
        NineTrees y = Checks.planted("tree 0 0 0;tree 4 3 0;tree 0 1 0");
        due("37: the nearest, not the last", y.behind(0, 4), 1);
        NineTrees z = Checks.planted("tree 0 0 0;tree 1 7 0");
        due("37: askew", z.behind(0, 14), 1);
        due("37: its own cell", z.behind(0, 0), -2);
        due("37: no tree", z.behind(2, 0), -2);
        due("37: no tree", z.behind(-1, 0), -2);
        due("37: no cell", z.behind(0, 25), -2);
        due("37: no cell", z.behind(0, -1), -2);
        due("37: refusals", z.status(12), 5);
    }

    private static void paths(String garden, int... want) {
        NineTrees x = garden.isEmpty() ? new NineTrees() : Checks.planted(garden);
        for (int slope = 0; slope < 4; slope++) {
            due("38: '" + garden + "' slope " + slope, x.paths(slope), want[slope]);
        }
    }

    private static void paths() {
        paths("", 5, 5, 9, 9);
        paths("side 3", 3, 3, 5, 5);
        paths("side 8", 8, 8, 15, 15);
        paths("side 4;tree 0 0 0", 3, 3, 6, 6);
        paths("side 3;tree 4 1 0;tree 2 5 0", 1, 1, 4, 3);
        paths("side 3;tree 4 1 0;tree 2 3 0", 1, 1, 3, 4);
        paths("side 3;tree 0 0 0;tree 0 1 0;tree 0 2 0", 2, 0, 2, 2);
        paths("side 3;tree 0 0 0;tree 0 3 0;tree 0 6 0", 0, 2, 2, 2);
        paths(NINE, 0, 0, 0, 0);
        NineTrees x = new NineTrees();
        due("38: bad", x.paths(4), -2);
        due("38: bad", x.paths(-1), -2);
        due("38: refusals", x.status(12), 2);
    }

    private static void alike() {
        due("42: no trees", new NineTrees().alike(), 8);
        due("42: nine", Checks.planted(NINE).alike(), 8);
        due("42: the middle", Checks.planted("tree 4 12 0").alike(), 8);
        due("42: a corner", Checks.planted("side 4;tree 0 0 0").alike(), 2);
        due("42: two corners", Checks.planted("side 4;tree 0 0 0;tree 4 15 0").alike(), 4);
        due("42: two corners in a row", Checks.planted("side 4;tree 0 0 0;tree 4 3 0").alike(), 2);
        due("42: a wheel", Checks.planted("side 4;tree 0 1 0;tree 0 7 0;tree 0 14 0;tree 0 8 0").alike(), 4);
        due("42: half a wheel", Checks.planted("side 4;tree 0 1 0;tree 0 14 0").alike(), 2);
        due("42: none but itself", Checks.planted("side 4;tree 0 1 0").alike(), 1);
        due("42: mirrored up and down", Checks.planted("tree 0 10 0;tree 0 13 0").alike(), 2);
        due("42: the other diagonal", Checks.planted("side 3;tree 0 2 0").alike(), 2);
    }

    private static void middle() {
        NineTrees x = new NineTrees();
        due("43: no trees", x.middle(), -5);
        due("43: refusals", x.status(15), 1);
        due("43: its own cell", Checks.planted("tree 4 17 0").middle(), 17);
        due("43: the first of several", Checks.planted("tree 0 24 0;tree 0 0 0").middle(), 0);
        due("43: three corners", Checks.planted("tree 0 4 0;tree 0 20 0;tree 0 24 0").middle(), 24);
        due("43: four and one", Checks.planted("tree 0 1 0;tree 0 5 0;tree 0 9 0;tree 0 21 0").middle(), 6);
        due("43: nine", Checks.planted(NINE).middle(), 4);
    }

    private static void nearest() {
        NineTrees x = new NineTrees();
        due("44: no trees", x.nearest(), -5);
        x.tree(0, 0, 0);
        due("44: one", x.nearest(), -5);
        due("44: refusals", x.status(15), 2);
        x.tree(4, 24, 0);
        due("44: two", x.nearest(), 1);
        x.tree(2, 23, 0);
        due("44: nearer", x.nearest(), 102);
        x.tree(0, 1, 0);
        due("44: the first", x.nearest(), 3);
        due("44: above 9", Checks.planted("side 8;tree 0 0 0;tree 0 2 0;tree 0 4 0;tree 0 6 0;tree 0 16 0;tree 0 18 0;"
            + "tree 0 20 0;tree 0 22 0;tree 0 32 0;tree 0 34 0;tree 0 36 0;tree 0 37 0").nearest(), 1011);
        due("44: two apart askew, three along", Checks.planted("tree 0 0 0;tree 0 3 0;tree 0 9 0").nearest(), 102);
        // Rows and columns apart, not as the crow flies: 3 along is less than 2 and 2.
        due("44: by rows and columns", Checks.planted("tree 0 0 0;tree 0 12 0;tree 0 15 0").nearest(), 2);
    }

    private static void largest() {
        due("45: no trees", new NineTrees().largest(), 0);
        due("45: two", Checks.planted("tree 0 0 0;tree 0 9 0").largest(), 0);
        due("45: in line", Checks.planted("tree 0 0 0;tree 0 7 0;tree 0 14 0").largest(), 0);
        due("45: half a yard", Checks.planted("tree 0 0 0;tree 4 1 0;tree 0 5 0").largest(), 1);
        due("45: the other way round", Checks.planted("tree 0 0 0;tree 4 5 0;tree 0 1 0").largest(), 1);
        due("45: nine", Checks.planted(NINE).largest(), 4);
        due("45: side 8", Checks.planted("side 8;tree 0 0 0;tree 0 1 0;tree 4 56 0;tree 0 63 0").largest(), 49);
    }

    private static void squares() {
        due("46: no trees", new NineTrees().squares(), 0);
        due("46: nine", Checks.planted(NINE).squares(), 6);
        due("46: askew", Checks.planted("side 4;tree 0 1 0;tree 4 7 0;tree 0 14 0;tree 0 8 0").squares(), 1);
        due("46: a rectangle", Checks.planted("tree 0 0 0;tree 0 1 0;tree 0 10 0;tree 0 11 0").squares(), 0);
        due("46: a rhombus", Checks.planted("tree 0 2 0;tree 0 11 0;tree 0 13 0;tree 0 22 0").squares(), 0);
        due("46: three corners", Checks.planted("tree 0 0 0;tree 0 1 0;tree 0 5 0").squares(), 0);
        due("46: two by one edge", Checks.planted("tree 0 0 0;tree 0 1 0;tree 0 5 0;tree 0 6 0;tree 0 2 0;tree 0 7 0").squares(), 2);
        due("46: not around the edge", Checks.planted("side 3;tree 0 2 0;tree 0 3 0;tree 0 5 0;tree 0 6 0").squares(), 0);
    }

    private static void corners() {
        due("47: no trees", new NineTrees().corners(), 0);
        due("47: one", Checks.planted("tree 4 12 0").corners(), 1);
        due("47: two", Checks.planted("tree 4 12 0;tree 0 0 0").corners(), 3);
        due("47: in line", Checks.planted("tree 0 12 0;tree 4 0 0;tree 0 24 0;tree 0 18 0").corners(), 6);
        due("47: nine", Checks.planted(NINE).corners(), 325);
        due("47: inside", Checks.planted("tree 0 0 0;tree 0 4 0;tree 0 22 0;tree 0 12 0").corners(), 7);
        due("47: outside", Checks.planted("tree 0 0 0;tree 0 4 0;tree 0 12 0;tree 0 22 0").corners(), 11);
        due("47: at the edge", Checks.planted("tree 0 0 0;tree 0 4 0;tree 0 22 0;tree 0 3 0").corners(), 7);
        due("47: all four", Checks.planted("tree 0 0 0;tree 0 9 0;tree 0 22 0;tree 0 15 0").corners(), 15);
        // Cherries are corners, too, and hold others in.
        due("47: any kind", Checks.planted("tree 4 0 0;tree 4 4 0;tree 4 20 0;tree 0 6 0").corners(), 7);
    }

    private static void pointed() {
        NineTrees x = Checks.planted("tree 0 0 0;tree 0 6 0;tree 0 12 0;tree 0 10 0;tree 0 11 0;tree 0 4 0");
        due("48: in the cells of two", x.pointed(12), 2);
        due("48: beyond", x.pointed(24), 1);
        due("48: beyond", x.pointed(14), 1);
        due("48: a row of two is none", x.pointed(2), 0);
        due("48: off", x.pointed(1), 0);
        due("48: between a row of two", x.pointed(8), 0);
        due("48: no cell", x.pointed(25), -2);
        due("48: no cell", x.pointed(-1), -2);
        due("48: refusals", x.status(12), 2);
        due("48: askew and far", Checks.planted("side 8;tree 0 0 0;tree 0 10 0;tree 0 20 0").pointed(30), 1);
        due("48: askew and near", Checks.planted("side 8;tree 0 20 0;tree 0 10 0;tree 0 30 0").pointed(0), 1);
        due("48: steps of two", Checks.planted("side 8;tree 0 0 0;tree 0 18 0;tree 0 36 0").pointed(27), 1);
        due("48: with a cherry", Checks.planted("tree 0 0 0;tree 4 1 0;tree 0 2 0").pointed(3), 0);
    }
}
