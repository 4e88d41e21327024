/** Promise 17 and the words on GARDENS and the FAULT: each kind of fault, at its first byte, and the last that may be. */
public final class TapeEdgesTest {
    private static final Checks CHECKS = new Checks("TapeEdgesTest");
    private static final Twins TWINS = new Twins(CHECKS);
    private static final String NEW = "";
    /** TREE, FIRM, OAK, LOW in cells 0 to 3. */
    private static final String FOUR = "tree(0,0,1) tree(1,1,2) tree(3,2,3) tree(2,3,4) ";
    private static final String TWELVE = twelve();

    public static void main(String[] args) {
        size();
        tokensAsLongAsCanBe();
        words();
        numbers();
        blanks();
        statements();
        side();
        tree();
        wish();
        wishOfTwelve();
        move();
        fell();
        taken();
        noRoom();
        moreThanTwoDigits();
        endsTooEarly();
        firstOfTwoFaults();
        allOrNothing();
        shelves();
        emptyEitherWay();
        CHECKS.finish();
    }

    private static String twelve() {
        StringBuilder told = new StringBuilder("side(4) ");
        for (int t = 0; t < 12; t++) {
            told.append("tree(0,").append(t).append(",0) ");
        }
        return told.toString();
    }

    private static void of(String words) {
        TWINS.of(17, words);
    }

    private static void fault(String setup, String text, int place) {
        TWINS.fault(setup, text, place);
    }

    private static void reads(String setup, String text, String... told) {
        TWINS.runs(setup + " '" + text + "'", told);
    }

    private static void size() {
        of("bytes, 250 at most");
        reads(NEW, "side 8;".repeat(35) + "side3", "status(6)=250", "garden()=36", "status(0)=3", "status(6)=0");
        reads(NEW, " ".repeat(240) + "tree 0 0 0", "garden()=1", "status(1)=1");
        fault(NEW, " ".repeat(240) + "tree 0 0 x", 249);
        fault(NEW, " ".repeat(250), 250);
        fault(NEW, " ".repeat(246) + "tree", 250);
    }

    private static void tokensAsLongAsCanBe() {
        of("TOKENS, each as long as can be");
        reads(NEW, "side3", "garden()=1", "status(0)=3");
        reads(NEW, "tree0 24 9;fell", "garden()=2", "status(1)=0");
        reads(NEW, "tree5 10 3", "garden()=1", "treeOf(0,0)=5", "treeOf(0,1)=10", "treeOf(0,2)=3");
        fault(NEW, "side33", 4);
        fault(NEW, "tree 010 3", 5);
        fault(NEW, "tree 0 103", 7);
        fault(NEW, "sidetree", 0);
        fault(FOUR, "fellfell", 0);
        fault(FOUR, "fellx", 0);
        fault(NEW, "side3x", 5);
        fault(NEW, "3side", 0);
    }

    private static void words() {
        of("WORDS (a .. z)");
        fault(NEW, "a", 0);
        fault(NEW, "z", 0);
        fault(NEW, "side z", 5);
        fault(NEW, "side a", 5);
        fault(NEW, "asde 3", 0);
        fault(NEW, "sidz 3", 0);
        fault(NEW, "sid 3", 0);
        fault(NEW, "sidea3", 0);
        fault(NEW, "sidez3", 0);
        for (String word : new String[] {"sid", "tre", "wis", "mov", "fel", "sides", "trees", "wishe", "moved", "felle", "SIDE", "Tree"}) {
            fault(FOUR, word, 0);
        }
        of("a WORD that is none by one letter");
        for (String word : new String[] {"side", "tree", "wish", "move", "fell"}) {
            for (int i = 0; i < 4; i++) {
                for (int by = -1; by <= 1; by += 2) {
                    char letter = (char) (word.charAt(i) + by);
                    fault(word.equals("side") || word.equals("tree") ? NEW : FOUR, word.substring(0, i) + letter + word.substring(i + 1), 0);
                }
            }
        }
        of("a byte that begins none, beside a .. z");
        fault(NEW, "`", 0);
        fault(NEW, "{", 0);
        fault(NEW, "side` 3", 4);
        fault(NEW, "side{ 3", 4);
        fault(NEW, "side A", 5);
        fault(NEW, "side Z", 5);
        fault(FOUR, "fell@", 4);
        fault(FOUR, "fell[", 4);
    }

    private static void numbers() {
        of("NUMBERS (digits)");
        reads(NEW, "tree 0 9 0", "garden()=1", "treeAt(9)=0");
        reads("side(8)", "tree 0 59 9;tree 1 60 0", "garden()=2", "treeAt(59)=0", "treeAt(60)=1");
        reads(NEW, "tree 00 09 09", "garden()=1", "treeOf(0,1)=9", "treeOf(0,2)=9");
        of("a byte that begins none, beside digits");
        fault(NEW, "side /", 5);
        fault(NEW, "side :", 5);
        fault(NEW, "side 4/", 6);
        fault(NEW, "side 4:", 6);
        fault(NEW, "side -4", 5);
        fault(NEW, "side +4", 5);
        of("the SIGN ;");
        fault(NEW, "side 4<", 6);
        fault(NEW, "side 4,side 4", 6);
    }

    private static void blanks() {
        of("blanks (32) may stand anywhere between");
        reads(NEW, "  side   4  ;  side 3  ", "garden()=2", "status(0)=3");
        reads(NEW, "side4;side3", "garden()=2", "status(0)=3");
        reads(NEW, "tree 0   7 3 ", "garden()=1", "treeAt(7)=0");
        fault(NEW, "si de 4", 0);
        fault(NEW, "tree 0 1 2 3", 11);
        of("a byte that begins none, beside blanks");
        for (int letter : new int[] {0, 9, 10, 13, 31, 33, 127, 128, 160, 255}) {
            fault(NEW, "side" + (char) letter + "3", 4);
            fault(NEW, (char) letter + "side 3", 0);
            fault(NEW, "side 3" + (char) letter, 6);
            fault(NEW, "   " + (char) letter, 3);
        }
    }

    private static void statements() {
        of("STATEMENTS, one or more");
        fault(NEW, "", 0);
        fault(NEW, " ", 1);
        reads(FOUR, "fell", "garden()=1", "status(1)=3");
        reads(FOUR, "fell;fell;fell;fell", "garden()=4", "status(1)=0");
        of("with ; between");
        fault(NEW, ";", 0);
        fault(NEW, ";side 4", 0);
        fault(NEW, "side 4;", 7);
        fault(NEW, "side 4; ", 8);
        fault(NEW, "side 4;;side 4", 7);
        fault(NEW, "side 4; ;", 8);
        fault(NEW, "side 4 side 4", 7);
        fault(NEW, "side 4 4", 7);
        fault(NEW, "tree 0 1 2 tree 0 2 2", 11);
        fault(FOUR, "fell fell", 5);
        fault(FOUR, "fell 3", 5);
        fault(FOUR, "wish 0 1 2 fell", 11);
        fault(FOUR, "move 0 9 fell", 9);
        fault(NEW, "4", 0);
        fault(NEW, "side 4;4", 7);
    }

    private static void side() {
        of("side N: a NUMBER that may not be, at both ends");
        reads(NEW, "side 3", "garden()=1", "status(0)=3");
        reads(NEW, "side 8", "garden()=1", "status(0)=8");
        fault(NEW, "side 2", 5);
        fault(NEW, "side 9", 5);
        fault(NEW, "side 0", 5);
        fault(NEW, "side 10", 5);
        fault(NEW, "side 99", 5);
        fault(NEW, "side ;", 5);
        fault(NEW, "side side", 5);
        of("side N (only if there are no TREES): its word");
        fault(FOUR, "side 5", 0);
        fault(FOUR, "  side 4", 2);
        fault(FOUR, "side", 0);
        fault(FOUR, "side 99", 0);
        fault("tree(0,0,0)", "side 5", 0);
        fault(NEW, "tree 0 0 0;side 5", 11);
        of("side N, when all TREES are felled");
        reads(FOUR, "fell;fell;fell;fell;side 8;tree 0 63 0", "garden()=6", "status(0)=8", "treeAt(63)=0");
        fault(FOUR, "fell;fell;fell;side 8", 15);
        reads("tree(0,0,0) fell()", "side 3", "garden()=1", "status(0)=3");
    }

    private static void tree() {
        of("tree K: a NUMBER that may not be");
        reads(NEW, "tree 0 0 0;tree 5 1 0", "garden()=2", "treeOf(0,0)=0", "treeOf(1,0)=5");
        fault(NEW, "tree 6 0 0", 5);
        fault(NEW, "tree 10 0 0", 5);
        fault(NEW, "tree ;", 5);
        fault(NEW, "tree x 0 0", 5);
        of("tree C: a NUMBER that may not be, on each side");
        for (int n = 3; n <= 8; n++) {
            int last = n * n - 1;
            reads("side(" + n + ")", "tree 0 0 0;tree 0 " + last + " 0", "garden()=2", "treeAt(0)=0", "treeAt(" + last + ")=1");
            fault("side(" + n + ")", "tree 0 " + (last + 1) + " 0", 7);
            fault(NEW, "side " + n + ";tree 0 " + (last + 1) + " 0", 14);
            reads(NEW, "side " + n + ";tree 0 " + last + " 0", "garden()=2", "status(0)=" + n, "treeAt(" + last + ")=0");
        }
        fault("side(8)", "tree 0 99 0", 7);
        fault(NEW, "tree 0 ;", 7);
        fault(NEW, "tree 0 x 0", 7);
        of("tree A: a NUMBER that may not be");
        reads(NEW, "tree 0 1 0;tree 0 2 9", "garden()=2", "treeOf(0,2)=0", "treeOf(1,2)=9");
        fault(NEW, "tree 0 1 10", 9);
        fault(NEW, "tree 0 1 99", 9);
        fault(NEW, "tree 0 1 ;", 9);
        fault(NEW, "tree 0 1 x", 9);
    }

    private static void wish() {
        of("wish T T T: three at least");
        reads(FOUR, "wish 0 1 2", "garden()=1", "wishOf(0)=7");
        reads(FOUR, "wish 3 2 1;wish 0 1 2", "garden()=2", "wishOf(0)=14", "wishOf(1)=7");
        fault(FOUR, "wish;", 4);
        fault(FOUR, "wish 0;", 6);
        fault(FOUR, "wish 0 1;", 8);
        fault(FOUR, "wish 0 1 x", 9);
        fault(FOUR, "wish 0 1 ;wish 0 1 2", 9);
        of("wish T: a TREE that there is none of");
        reads(FOUR, "wish 1 2 3", "garden()=1", "wishOf(0)=14");
        fault(FOUR, "wish 4 0 1", 5);
        fault(FOUR, "wish 0 4 1", 7);
        fault(FOUR, "wish 0 1 4", 9);
        fault(FOUR, "wish 0 1 2 4", 11);
        fault(FOUR, "wish 0 1 2 3 4", 13);
        fault(NEW, "wish 0 1 2", 5);
        fault(NEW, "tree 0 0 0;tree 0 1 0;wish 0 1 2", 31);
        fault(FOUR, "fell;wish 0 1 3", 14);
        of("each unlike those ahead");
        fault(FOUR, "wish 0 0 1", 7);
        fault(FOUR, "wish 0 1 0", 9);
        fault(FOUR, "wish 0 1 1", 9);
        fault(FOUR, "wish 0 1 2 0", 11);
        fault(FOUR, "wish 0 1 2 02", 11);
        fault(FOUR, "wish 3 2 1 0 3", 13);
        of("a WISH on THE TAPE may be like one that there is");
        reads(FOUR + "wish(7)", "wish 2 1 0;wish 0 1 2", "garden()=2", "status(5)=3", "wishOf(2)=7");
    }

    private static void wishOfTwelve() {
        of("and more T (12 at most)");
        String all = "wish 11 10 9 8 7 6 5 4 3 2 1 0";
        reads(TWELVE, all, "garden()=1", "wishOf(0)=0xfff");
        reads(TWELVE, all + ";wish 0 1 11", "garden()=2", "wishOf(1)=0x803");
        fault(TWELVE, all + " 0", 31);
        fault(TWELVE, all + " 12", 31);
        fault(TWELVE, all + " x", 31);
        fault(TWELVE, all.replace(" 0", "") + " 12", 29);
        fault(TWELVE, all.replace(" 0", "") + " 11", 29);
        reads(TWELVE, all.replace(" 0", ""), "garden()=1", "wishOf(0)=0xffe");
    }

    private static void move() {
        of("move T C (in truth, if it may be)");
        reads(FOUR, "move 0 24", "garden()=1", "treeAt(24)=0", "treeAt(0)=-1");
        reads(FOUR, "move 3 4;move 0 3;move 3 0", "garden()=3", "treeAt(3)=0", "treeAt(0)=3");
        reads("side(8) tree(4,5,0) tree(5,6,0)", "move 0 63;move 1 0", "garden()=2", "treeAt(63)=0", "treeAt(0)=1");
        of("move T: a TREE that there is none of");
        fault(FOUR, "move 4 9", 5);
        fault(FOUR, "move 99 9", 5);
        fault(NEW, "move 0 9", 5);
        fault(FOUR, "fell;move 3 9", 10);
        fault(FOUR, "move ;", 5);
        fault(FOUR, "move x", 5);
        of("move C: a NUMBER that may not be");
        fault(FOUR, "move 0 25", 7);
        fault(FOUR, "move 0 99", 7);
        fault(FOUR, "move 0 ;", 7);
        fault(FOUR, "move 0 x", 7);
        fault("side(8) tree(0,0,0)", "move 0 64", 7);
        fault("side(3) tree(0,0,0)", "move 0 9", 7);
        of("a TREE that can't be moved: T");
        fault(FOUR, "move 1 9", 5);
        fault(FOUR, "move 2 9", 5);
        fault(FOUR, "move 1 0", 5);
        fault(FOUR, "move 1 99", 5);
        fault(FOUR, "move 2", 5);
        fault(NEW, "tree 1 0 0;move 0 9", 16);
        fault(NEW, "tree 3 0 0;move 0 9", 16);
    }

    private static void fell() {
        of("fell (the last TREE)");
        reads(FOUR, "fell", "garden()=1", "status(1)=3", "treeAt(3)=-1", "treeAt(2)=2");
        of("fell, if there is none: its word");
        fault(NEW, "fell", 0);
        fault(NEW, " fell", 1);
        fault(FOUR, "fell;fell;fell;fell;fell", 20);
        fault(NEW, "tree 0 0 0;fell;fell", 16);
        fault(NEW, "fell x", 0);
        of("fell, if it can't be: its word");
        fault(FOUR + "wish(14)", "fell", 0);
        fault(FOUR + "wish(7)", "fell;fell", 5);
        fault(FOUR, "wish 1 2 3;fell", 11);
        fault(FOUR, "wish 0 1 2;fell;fell", 16);
        reads(FOUR + "wish(7)", "fell", "garden()=1", "status(1)=3");
        reads(FOUR + "wish(7) tree(4,4,4)", "fell;fell", "garden()=2", "status(1)=3");
    }

    private static void taken() {
        of("a CELL that's taken: C");
        fault(FOUR, "tree 0 0 0", 7);
        fault(FOUR, "tree 0 3 0", 7);
        fault(FOUR, "tree 0 3 99", 7);
        fault(FOUR, "tree 0 3", 7);
        fault(NEW, "tree 0 9 0;tree 0 9 0", 18);
        fault(FOUR, "move 0 3", 7);
        fault(FOUR, "move 3 0", 7);
        fault(FOUR, "move 0 1", 7);
        of("a CELL that's taken by the TREE itself: C");
        fault(FOUR, "move 0 0", 7);
        fault(FOUR, "move 0 9;move 0 9", 16);
        of("a CELL that's taken no more, or by now");
        reads(FOUR, "move 0 9;tree 0 0 0", "garden()=2", "treeAt(0)=4", "treeAt(9)=0");
        reads(FOUR, "fell;tree 0 3 0", "garden()=2", "treeAt(3)=3", "treeOf(3,0)=0");
        fault(FOUR, "move 0 9;tree 0 9 0", 16);
        fault(FOUR, "tree 0 9 0;move 0 9", 18);
        of("a CELL that's taken: each one of nine");
        fault("side(3) tree(0,0,0) plant(8)", "tree 0 0 0", 7);
        fault("side(3) tree(0,0,0) plant(8)", "tree 0 8 0", 7);
        fault("side(3) tree(0,0,0) plant(8)", "move 0 8", 7);
    }

    private static void noRoom() {
        of("what there is no room for: its word (TREES)");
        reads(TWELVE + "fell()", "tree 0 15 0", "garden()=1", "status(1)=12", "treeAt(15)=11");
        fault(TWELVE, "tree 0 15 0", 0);
        fault(TWELVE, "  tree 0 0 0", 2);
        fault(TWELVE, "tree", 0);
        fault(TWELVE, "tree 99", 0);
        fault(TWELVE + "fell()", "tree 0 15 0;tree 0 14 0", 12);
        reads(TWELVE, "fell;tree 0 15 0", "garden()=2", "treeAt(15)=11", "treeAt(11)=-1");
        of("what there is no room for: its word (WISHES)");
        reads(TWELVE + "7*wish(7)", "wish 0 1 11", "garden()=1", "wishOf(7)=0x803");
        fault(TWELVE + "8*wish(7)", "wish 0 1 2", 0);
        fault(TWELVE + "8*wish(7)", "wish", 0);
        fault(TWELVE + "8*wish(7)", " wish 0 0 99", 1);
        fault(TWELVE + "7*wish(7)", "wish 0 1 2;wish 0 1 2", 11);
        fault(FOUR, "wish 0 1 2;".repeat(8) + "wish 0 1 2", 88);
        reads(FOUR, "wish 0 1 2;".repeat(7) + "wish 0 1 2", "garden()=8", "status(5)=8");
    }

    private static void moreThanTwoDigits() {
        of("or has more than 2 digits");
        reads(NEW, "side 03", "garden()=1", "status(0)=3");
        fault(NEW, "side 003", 5);
        fault(NEW, "side 000", 5);
        fault(NEW, "tree 000 0 0", 5);
        fault(NEW, "tree 0 000 0", 7);
        fault(NEW, "tree 0 0 000", 9);
        fault(NEW, "tree 0 100 0", 7);
        fault(FOUR, "wish 000 1 2", 5);
        fault(FOUR, "wish 0 001 2", 7);
        fault(FOUR, "wish 0 1 002", 9);
        fault(FOUR, "wish 0 1 2 003", 11);
        fault(FOUR, "move 000 9", 5);
        fault(FOUR, "move 0 009", 7);
        of("or has more than 2 digits, also if its lowest bits would do");
        fault(NEW, "side 4294967299", 5);
        fault(NEW, "side 18446744073709551619", 5);
        fault(NEW, "side 259", 5);
        fault(NEW, "side " + "0".repeat(240) + "3", 5);
    }

    private static void endsTooEarly() {
        of("THE TAPE's size, if it ends too early");
        for (String text : new String[] {"side", "tree", "tree 0", "tree 0 9", "tree0", "side 4;", "side 4;tree", "side 4;tree 0 9"}) {
            fault(NEW, text, text.length());
            fault(NEW, text + "  ", text.length() + 2);
        }
        for (String text : new String[] {"wish", "wish 0", "wish 0 1", "move", "move 0", "fell;", "move 0 9;", "wish 0 1 2;"}) {
            fault(FOUR, text, text.length());
            fault(FOUR, text + " ", text.length() + 1);
        }
    }

    private static void firstOfTwoFaults() {
        of("the first TOKEN that can't stand there");
        fault(NEW, "tree 6 99 99", 5);
        fault(NEW, "tree 0 99 99", 7);
        fault(NEW, "side 9 #", 5);
        fault(NEW, "# side 9", 0);
        fault(FOUR, "fell;oops;side 4;#", 5);
        fault(FOUR, "wish 4 4 4", 5);
        fault(FOUR, "wish 0 0 0", 7);
        fault(FOUR, "move 4 99", 5);
        fault(FOUR, "oops;side 4", 0);
    }

    private static void allOrNothing() {
        of("All comes to what there is");
        reads("seed(5) " + FOUR + "wish(7)", "tree 5 24 9;wish 1 3 4;move 0 20", "garden()=3", "status(1)=5", "status(5)=2",
            "wishOf(0)=7", "wishOf(1)=26", "treeAt(20)=0", "treeAt(24)=4", "status(7)=5", "status(0)=5");
        of("or nothing");
        fault(FOUR + "wish(7) image() seed(9) move(0,9)", "move 0 20;tree 0 0 0;wish 0 3 4;fell", 32);
        fault("side(4)", "side 8;tree 0 63 0;tree 0 62 0;wish 0 1 1", 40);
        fault(FOUR + "show(0,3) show(7,0) row(1,2,3) set(1,2,9)", "fell;fell;fell;fell;side 3;tree 0 8 0;#", 38);
        of("how many STATEMENTS");
        reads(TWELVE, "fell;".repeat(11) + "fell", "garden()=12", "status(1)=0");
        reads(NEW, "side 3;side 3", "garden()=2");
    }

    private static void shelves() {
        of("fell on THE TAPE: SHELVES that hold it hold NOTHING");
        reads(FOUR + "show(0,3) show(7,3) show(3,2) row(1,0,1)", "fell", "garden()=1", "holds(0)=-1", "holds(7)=-1", "holds(3)=12",
            "holds(1)=0", "status(8)=2");
        of("fell on THE TAPE: it is another TREE that has its number then");
        reads(FOUR + "show(0,3) show(7,2)", "fell;tree 0 9 0", "garden()=2", "holds(0)=-1", "holds(7)=12");
        reads(FOUR + "show(0,3) show(7,0)", "fell;fell;fell;fell;tree 0 9 0", "garden()=5", "holds(0)=-1", "holds(7)=-1");
        of("fell on THE TAPE: one that came by it");
        reads(FOUR + "show(0,3)", "tree 0 9 0;fell", "garden()=2", "holds(0)=13");
        of("move on THE TAPE: SHELVES hold it still");
        reads(FOUR + "show(0,3)", "move 3 9", "garden()=1", "holds(0)=13", "treeAt(9)=3");
    }

    private static void emptyEitherWay() {
        of("THE TAPE is empty then, either way");
        reads(FOUR, "fell", "garden()=1", "status(6)=0", "wipe()=0", "feed(32)=1");
        Run run = new Run(FOUR + "'oops'");
        CHECKS.due("17: a fault", run.call("garden()"), -20);
        CHECKS.due("17: the tape behind it", run.call("status(6)"), 0);
        CHECKS.due("17: an empty tape once more", run.call("garden()"), -20);
        CHECKS.due("17: refused twice", run.call("status(12)"), 2);
        CHECKS.due("17: the next byte", run.call("feed(102)"), 1);
    }
}
