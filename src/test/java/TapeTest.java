/** Promises 15 to 17: the tape and the gardens read from it. */
public final class TapeTest {
    private static final Checks CHECKS = new Checks("TapeTest");

    public static void main(String[] args) {
        feed();
        wipe();
        statements();
        tokens();
        ends();
        words();
        sides();
        trees();
        wishes();
        moves();
        falls();
        room();
        allOrNothing();
        shelves();
        CHECKS.finish();
    }

    private static void due(String call, long got, long want) {
        CHECKS.due(call, got, want);
    }

    /** On a new garden. */
    private static void reads(String text, int want) {
        due("17: '" + text + "'", Checks.garden(new NineTrees(), text), want);
    }

    private static void fault(String text, int place) {
        NineTrees x = new NineTrees();
        Checks.feed(x, text);
        due("17: '" + text + "'", x.garden(), -20 - place);
        due("17: '" + text + "' is refused", x.status(12), 1);
        due("17: '" + text + "' leaves an empty tape", x.status(6), 0);
        due("17: '" + text + "' leaves no trees", x.status(1), 0);
        due("17: '" + text + "' leaves the side", x.status(0), 5);
    }

    private static void feed() {
        NineTrees x = new NineTrees();
        due("15: 0", x.feed(0), 1);
        due("15: 255", x.feed(255), 2);
        due("15: 256", x.feed(256), -2);
        due("15: -1", x.feed(-1), -2);
        for (int i = 3; i <= 250; i++) {
            due("15: size", x.feed('a'), i);
        }
        due("15: full", x.feed('a'), -6);
        due("15: bad before full", x.feed(999), -2);
        due("15: size", x.status(6), 250);
        due("15: refusals", x.status(16) * 10 + x.status(12), 13);
    }

    private static void wipe() {
        NineTrees x = new NineTrees();
        due("16: empty", x.wipe(), 0);
        Checks.feed(x, "tree 0 0 0");
        due("16: ten", x.wipe(), 10);
        due("16: empty again", x.wipe(), 0);
        due("16: nothing of it is read", x.garden(), -20);
        Checks.feed(x, "fe");
        x.wipe();
        due("16: begins anew", x.feed('f'), 1);
    }

    private static void statements() {
        NineTrees x = new NineTrees();
        int got = Checks.garden(x, "side 6;tree 2 35 9;tree 0 7 1;tree 4 14 0;tree 5 20 3;"
            + "wish 3 0 2 1;move 1 8;tree 0 0 0;fell");
        due("17: all statements", got, 9);
        due("17: tape then", x.status(6), 0);
        due("17: side", x.status(0), 6);
        due("17: trees", x.status(1), 4);
        due("17: kind", x.treeOf(0, 0), 2);
        due("17: cell", x.treeOf(0, 1), 35);
        due("17: a", x.treeOf(0, 2), 9);
        due("17: moved", x.treeOf(1, 1), 8);
        due("17: wish", x.wishOf(0), 15);
        due("17: felled", x.treeAt(0), -1);
        due("17: more comes to what there is", Checks.garden(x, "tree 1 0 2"), 1);
        due("17: its number", x.treeAt(0), 4);
        due("17: nothing was refused", x.status(12), 0);
    }

    private static void tokens() {
        reads("side3", 1);
        reads("  side   4  ", 1);
        reads("side 04", 1);
        reads("tree0 1 2", 1);
        reads("tree 0 1 2;tree 0 2 2", 2);
        reads(" tree 00 01 02 ; tree 0 2 2 ", 2);
        reads("tree 0 0 0;fell;side 8;tree 0 63 0", 4);
        fault("side 004", 5);
        fault("side 100", 5);
        fault("side 4x", 6);
        fault("sides 4", 0);
        fault("sidea 4", 0);
        fault("sidez 4", 0);
        fault("wide 4", 0);
        fault("free 0 0 0", 0);
        fault("Side 4", 0);
        fault("si de 4", 0);
        fault("side\t4", 4);
        fault("side -4", 5);
        fault("side 4.", 6);
        fault("  #", 2);
        fault("side \u00e9", 5);
        fault("side 4;#", 7);
        fault("side 9 #", 5);
        fault("tree 0 12 3{", 11);
        fault("`", 0);
        fault("side :", 5);
        fault("side /", 5);
        fault("side 4" + (char) 0, 6);
    }

    private static void ends() {
        fault("", 0);
        fault("   ", 3);
        fault("side", 4);
        fault("side ", 5);
        fault("side 4;", 7);
        fault("side 4; ", 8);
        fault("tree 0 1", 8);
        fault("tree 0 1 ", 9);
        fault("tree", 4);
        fault("tree 0 0 0;move", 15);
        fault("tree 0 0 0;move 0", 17);
        fault("tree 0 0 0;wish", 15);
        fault("tree 0 0 0;tree 0 1 0;tree 0 2 0;wish 0 1", 41);
    }

    private static void words() {
        fault(";", 0);
        fault("side 4;;side 4", 7);
        fault("4", 0);
        fault("side side", 5);
        fault("side;", 4);
        fault("side 4 4", 7);
        fault("side 4 side 4", 7);
        fault("tree 0 0 0 0", 11);
        fault("grow 4", 0);
        fault("tre", 0);
        fault("tree 0 0 0;fell 0", 16);
        fault("tree 0 0 0;felled", 11);
        fault("tree 0 0 0;tree 0 1 0;tree 0 2 0;wish 0 1;", 41);
        fault("tree 0 0 0;tree 0 1 0;tree 0 2 0;wish 0 1 2 fell", 44);
    }

    private static void sides() {
        reads("side 3", 1);
        reads("side 8", 1);
        reads("side 8;side 3", 2);
        fault("side 2", 5);
        fault("side 9", 5);
        fault("side 0", 5);
        fault("side 3;tree 0 9 0", 14);
        fault("tree 0 0 0;side 4", 11);
        fault("tree 0 0 0;side", 11);
        NineTrees x = Checks.planted("tree 0 0 0");
        due("17: side with a tree there", Checks.garden(x, "side 5"), -20);
        due("17: its refusal", x.status(12), 1);
    }

    private static void trees() {
        reads("tree 5 24 9", 1);
        fault("tree 6 0 0", 5);
        fault("tree 0 25 0", 7);
        fault("tree 0 99 0", 7);
        fault("tree 0 0 10", 9);
        fault("tree 0 100 0", 7);
        fault("tree x", 5);
        fault("tree ;", 5);
        fault("tree 0 ;", 7);
        fault("tree 0 0 ;", 9);
        fault("tree 0 1 0;tree 0 1 0", 18);
        fault("tree 0 1 0;tree 9 1 0", 16);
        fault("tree 0 1 0;tree 0 1 99", 18);
        NineTrees x = Checks.planted("tree 0 3 0");
        due("17: taken by what there is", Checks.garden(x, "tree 0 3 0"), -27);
    }

    private static void wishes() {
        String four = "tree 0 0 0;tree 1 1 0;tree 4 2 0;tree 0 3 0;";
        int n = four.length();
        reads(four + "wish 0 1 2", 5);
        reads(four + "wish 3 1 2 0", 5);
        reads(four + "wish 03 01 02;wish 0 1 2", 6);
        fault(four + "wish 0 1 1", n + 9);
        fault(four + "wish 0 0 1", n + 7);
        fault(four + "wish 0 1 2 0", n + 11);
        fault(four + "wish 0 1 4", n + 9);
        fault(four + "wish 0 1 2 4", n + 11);
        fault(four + "wish 4 0 1", n + 5);
        fault(four + "wish 0 1 2 003", n + 11);
        fault(four + "wish x", n + 5);
        fault(four + "wish 0 1 2;wish", n + 15);
        fault("wish 0 1 2", 5);
        NineTrees x = new NineTrees();
        x.plant(12);
        due("17: all twelve", Checks.garden(x, "wish 11 10 9 8 7 6 5 4 3 2 1 0"), 1);
        due("17: all twelve", x.wishOf(0), 4095);
        due("17: one more", Checks.garden(x, "wish 11 10 9 8 7 6 5 4 3 2 1 0 0"), -20 - 31);
        due("17: and another statement", Checks.garden(x, "wish 11 10 9 8 7 6 5 4 3 2 1 0;wish 0 1 2"), 2);
    }

    private static void moves() {
        String two = "tree 0 0 0;tree 1 1 0;tree 3 2 0;";
        int n = two.length();
        reads(two + "move 0 24", 4);
        reads(two + "move 0 24;move 0 0", 5);
        fault(two + "move 1 5", n + 5);
        fault(two + "move 2 5", n + 5);
        fault(two + "move 3 5", n + 5);
        fault(two + "move 1", n + 5);
        fault(two + "move 0 1", n + 7);
        fault(two + "move 0 0", n + 7);
        fault(two + "move 0 25", n + 7);
        fault(two + "move 1 25", n + 5);
        fault(two + "move;", n + 4);
        fault("move 0 1", 5);
    }

    private static void falls() {
        reads("tree 0 0 0;fell", 2);
        reads("tree 3 0 0;tree 0 1 0;fell;fell", 4);
        fault("fell", 0);
        fault("tree 0 0 0;fell;fell", 16);
        fault("tree 0 0 0;tree 0 1 0;tree 0 2 0;wish 0 1 2;fell", 44);
        NineTrees x = Checks.planted("tree 0 0 0;tree 0 1 0;tree 0 2 0;tree 0 3 0;wish 0 1 2;fell");
        due("17: one that isn't wished", x.status(1), 3);
        due("17: one that is", Checks.garden(x, " fell"), -21);
    }

    private static void room() {
        NineTrees x = new NineTrees();
        x.plant(12);
        due("17: no room for a tree", Checks.garden(x, "tree 0 0 0"), -20);
        due("17: no room for a bad tree", Checks.garden(x, "tree"), -20);
        due("17: room by felling", Checks.garden(x, "fell;tree 0 " + x.treeOf(11, 1) + " 0"), 2);
        due("17: until there's none", Checks.garden(x, "move 99 0"), -25);
        for (int i = 0; i < 8; i++) {
            x.wish(7);
        }
        due("17: no room for a wish", Checks.garden(x, "wish 0 1 2"), -20);
        due("17: no room for a bad wish", Checks.garden(x, "wish 99"), -20);
        NineTrees y = new NineTrees();
        String most = "side 8;".repeat(35) + "side3";
        due("17: a full tape", most.length(), 250);
        due("17: a full tape", Checks.garden(y, most), 36);
        due("17: the last of it", y.status(0), 3);
        NineTrees z = new NineTrees();
        due("17: a full tape that ends too early", Checks.garden(z, "side 8;".repeat(35) + " side"), -270);
    }

    private static void allOrNothing() {
        NineTrees x = Checks.planted("side 4;tree 0 0 0;tree 0 1 0;tree 0 2 0;wish 0 1 2");
        x.seed(5);
        int got = Checks.garden(x, "move 0 15;tree 0 3 0;tree 0 4 0;wish 1 2 3;fell;oops");
        due("17: fault at the end", got, -20 - 48);
        due("17: not moved", x.treeAt(0), 0);
        due("17: no tree more", x.status(1), 3);
        due("17: no wish more", x.status(5), 1);
        due("17: side", x.status(0), 4);
        due("17: seed", x.status(7), 5);
        due("17: refused once", x.status(12), 1);
        due("17: without the fault", Checks.garden(x, "move 0 15;tree 0 3 0;tree 0 4 0;wish 1 2 3;fell"), 5);
        due("17: moved", x.treeAt(15), 0);
        due("17: wishes", x.wishOf(1), 14);
        due("17: trees", x.status(1), 4);
        due("17: seed", x.status(7), 5);
    }

    private static void shelves() {
        NineTrees x = Checks.planted("tree 0 0 0;tree 0 1 0");
        x.show(0, 1);
        x.show(1, 0);
        x.row(2, 0, 2);
        Checks.garden(x, "fell;oops");
        due("17: nothing felled by a fault", x.holds(0), 11);
        Checks.garden(x, "tree 0 5 0;fell");
        due("17: another was felled", x.holds(0), 11);
        Checks.garden(x, "fell;tree 0 7 0");
        due("17: felled, its number in use again", x.holds(0), -1);
        due("17: not felled", x.holds(1), 10);
        due("17: a row", x.holds(2), 0);
    }
}
