/** Each promise by hand: ordinary inputs, the edges that the document names, wrong inputs. */
public final class PromisesTest {
    private static final int BY_SUIT = Patiencery.BY_SUIT, BY_COLOUR = Patiencery.BY_COLOUR;
    private static final int BY_RANK = Patiencery.BY_RANK;
    private static final int ANY = Patiencery.ANY_CARD, HIGHEST = Patiencery.HIGHEST, NO_CARD = Patiencery.NO_CARD;
    private static final int NONE = Patiencery.NONE, LOST = Patiencery.LOST, UNKNOWN = Patiencery.UNKNOWN;
    private static final int MANY = Integer.MAX_VALUE, FEW = Integer.MIN_VALUE;

    private final Sheet s = new Sheet();
    private Patiencery x;

    private void stateRefused(String what, Patiencery x, Sheet.Call call) {
        s.refused(what, x, IllegalStateException.class, call);
    }

    private void constants() {
        s.promise = "constants";
        s.due("NONE", NONE, -1);
        s.due("BY_SUIT", BY_SUIT, 0);
        s.due("BY_COLOUR", BY_COLOUR, 1);
        s.due("BY_RANK", BY_RANK, 2);
        s.due("ANY_CARD", ANY, 0);
        s.due("HIGHEST", HIGHEST, 1);
        s.due("NO_CARD", NO_CARD, 2);
        s.due("LOST", LOST, -1);
        s.due("UNKNOWN", UNKNOWN, -2);
    }

    private void newObject() {
        s.promise = "1 a new object";
        x = new Patiencery();
        s.due("shown", Sheet.shown(x), "[6 2 7][5 3 0][4 1][][]c[]c[]w[]f[. . . .]s[]");
        s.due("told", Sheet.told(x), "0 0 0 0 0 0 0 0");
        s.due("listed", Sheet.listed(x), "[501, 1501, 1801, 2501]");
        s.due("numberOf(0)", x.numberOf(0), 0);
        s.due("deal(0, 0)", x.deal(0, 0), 8);
        s.due("shown by the first rules", Sheet.shown(x), "[6 2 7][5 3 0][4 1][][]c[]c[]w[]f[. . . .]s[]");
        s.due("BY_COLOUR at first", Sheet.listed(x), "[501, 1501, 1801, 2501]");
        Patiencery y = new Patiencery();
        y.move(0, 5, 1);
        s.due("objects are apart", Sheet.shown(x), "[6 2 7][5 3 0][4 1][][]c[]c[]w[]f[. . . .]s[]");
    }

    private void deck() {
        s.promise = "2 deck";
        x = new Patiencery();
        int[][] right = {{1, 2}, {2, 1}, {1, 6}, {2, 6}, {4, 4}, {4, 1}, {3, 5}};
        for (int[] r : right) {
            s.due("deck(" + r[0] + ", " + r[1] + ")", x.deck(r[0], r[1]), r[0] * r[1]);
        }
        x.deck(2, 4);
        int[][] wrong = {{0, 4}, {5, 2}, {-1, -4}, {2, 0}, {2, 7}, {1, 7}, {1, 1}, {4, 5}, {3, 6}, {4, 6}, {1, 16},
            {16, 1}, {MANY, 2}, {FEW, 2}, {2, MANY}, {65536, 65536}};
        for (int[] w : wrong) {
            s.refused("deck(" + w[0] + ", " + w[1] + ")", x, () -> x.deck(w[0], w[1]));
        }
        x.deck(4, 4);
        s.due("shown ahead of the next deal", Sheet.shown(x), "[6 2 7][5 3 0][4 1][][]c[]c[]w[]f[. . . .]s[]");
        s.due("deal of 16", x.deal(0, 617), 16);
        s.due("shown", Sheet.shown(x), "[5 7 3 8 1 6][10 12 2 11 14][0 13 15 4 9][][]c[]c[]w[]f[. . . .]s[]");
        x.stock(4, 0, false);
        s.refused("deck(1, 4) with 4 in stock", x, () -> x.deck(1, 4));
        s.refused("deck(2, 2) with 4 in stock", x, () -> x.deck(2, 2));
        s.refused("deck(1, 3) with 4 in stock", x, () -> x.deck(1, 3));
        s.due("deck(1, 5) with 4 in stock", x.deck(1, 5), 5);
        s.due("deal", x.deal(0, 0), 1);
        s.due("ranks of the deck", x.numberOf(0), 0);
    }

    private void table() {
        s.promise = "3 table";
        x = new Patiencery();
        int[][] wrong = {{0, 1, 1, 0}, {6, 1, 1, 0}, {FEW, 1, 1, 0}, {3, -1, 1, 0}, {3, 3, 1, 0}, {3, MANY, 1, 0},
            {3, 1, -1, 0}, {3, 1, 3, 0}, {3, 1, 1, -1}, {3, 1, 1, 3}, {MANY, MANY, MANY, MANY}};
        for (int[] w : wrong) {
            s.refused("table" + java.util.Arrays.toString(w), x, () -> x.table(w[0], w[1], w[2], w[3]));
        }
        x.table(5, 2, BY_RANK, NO_CARD);
        s.due("rules of the deal stay", Sheet.listed(x), "[501, 1501, 1801, 2501]");
        stateRefused("move to a cell that the deal has not", x, () -> x.move(0, 6, 1));
        s.due("deal", x.deal(0, 0), 8);
        s.due("shown", Sheet.shown(x), "[6 1][5 7][4 0][2][3]c[]c[]w[]f[. . . .]s[]");
        // 6 is of rank 3, 1 of 2, 5 of 2, 7 of 4, 4 and 0 of 1, 2 of 3, 3 of 4
        s.due("by rank, two cells", Sheet.listed(x),
            "[102, 301, 402, 501, 601, 1501, 1601, 2001, 2501, 2601, 2801, 3101, 3401, 3501, 3601, 4501, 4601]");
        x = Sheet.ruled(1, 3, 3, 0, BY_SUIT, ANY);
        Sheet.dealing(x, 0, 1, 2);
        x.move(0, 8, 1);
        x.table(3, 0, BY_SUIT, NO_CARD);
        s.due("any card still comes into the empty column", Sheet.listed(x), "[1001, 1201, 1801, 2001]");
        x = new Patiencery();
        x.table(1, 0, BY_SUIT, ANY);
        x.deal(0, 0);
        s.due("one column, no cells", Sheet.shown(x), "[6 5 4 2 3 1 7 0][][][][]c[]c[]w[]f[. . . .]s[]");
        s.due("only the ace", Sheet.listed(x), "[801]");
    }

    private void stock() {
        s.promise = "4 stock";
        x = new Patiencery();
        int[][] wrong = {{-1, 0}, {9, 0}, {8, 0}, {FEW, 0}, {MANY, 0}, {0, -1}, {0, 3}, {3, MANY}};
        for (int[] w : wrong) {
            s.refused("stock(" + w[0] + ", " + w[1] + ")", x, () -> x.stock(w[0], w[1], false));
            s.refused("stock(" + w[0] + ", " + w[1] + ") hidden", x, () -> x.stock(w[0], w[1], true));
        }
        x.stock(7, 2, false);
        s.due("stays", Sheet.shown(x), "[6 2 7][5 3 0][4 1][][]c[]c[]w[]f[. . . .]s[]");
        s.due("7 of 8", x.deal(0, 0), 1);
        s.due("the last on the top", Sheet.shown(x), "[6][][][][]c[]c[]w[]f[. . . .]s[0 7 1 3 2 4 5]");
        x.deck(4, 4);
        s.refused("stock(9, 0) of 16", x, () -> x.stock(9, 0, false));
        s.refused("stock(-1, 0) of 16", x, () -> x.stock(-1, 0, false));
        s.refused("stock(8, 3) of 16", x, () -> x.stock(8, 3, false));
        x.stock(8, 0, true);
        s.due("8 of 16", x.deal(0, 617), 8);
        s.due("hidden", Sheet.shown(x), "[? ? 3][? ? 2][? 13][][]c[]c[]w[]f[. . . .]s[6 9 14 1 4 11 8 15]");
        s.due("told(7)", x.told(7), 5);
        x.stock(0, 0, true);
        x.deck(1, 2);
        x.deal(0, 1);
        s.due("one card in a column is not hidden", Sheet.shown(x), "[1][0][][][]c[]c[]w[]f[. . . .]s[]");
        s.refused("stock(2, 0) of 2", x, () -> x.stock(2, 0, false));
        x.stock(1, 0, false);
        s.due("1 of 2", x.deal(0, 1), 1);
        x.move(9, 7, 1);
        x.stock(1, 2, false);
        s.due("the deal may not be turned over for that", Sheet.listed(x), "[101, 201, 501, 7101, 7201, 7501, 7801]");
        x.deal(0, 1);
        x.move(9, 7, 1);
        x.stock(1, 0, false);
        s.due("the deal may be turned over still", Sheet.listed(x),
            "[101, 201, 501, 7101, 7201, 7501, 7801, 9701]");
    }

    private void deal() {
        s.promise = "5 deal";
        x = new Patiencery();
        int[][] wrong = {{-1, 0}, {2, 0}, {0, -1}, {1, 1000001}, {MANY, 0}, {FEW, FEW}, {0, MANY}, {1, FEW}};
        for (int[] w : wrong) {
            s.refused("deal(" + w[0] + ", " + w[1] + ")", x, () -> x.deal(w[0], w[1]));
        }
        x.table(1, 0, BY_SUIT, ANY);
        s.due("deal(1, 0)", x.deal(1, 0), 8);
        s.due("1, 0", Sheet.shown(x), "[0 6 4 2 5 1 3 7][][][][]c[]c[]w[]f[. . . .]s[]");
        x.deal(0, 1000000);
        s.due("0, 1000000", Sheet.shown(x), "[1 7 3 6 0 2 4 5][][][][]c[]c[]w[]f[. . . .]s[]");
        x.deal(1, 1000000);
        s.due("1, 1000000", Sheet.shown(x), "[6 3 0 1 7 4 5 2][][][][]c[]c[]w[]f[. . . .]s[]");
        x.deck(4, 4);
        x.table(5, 0, BY_SUIT, ANY);
        s.due("deal(1, 99)", x.deal(1, 99), 16);
        s.due("1, 99", Sheet.shown(x), "[0 11 13 1][3 4 5][8 15 10][9 6 14][12 7 2]c[]c[]w[]f[. . . .]s[]");
        x = Sheet.ruled(1, 4, 1, 1, BY_SUIT, ANY, 2, 1);
        Sheet.dealing(x, 3, 0, 2, 1);
        x.move(9, 7, 1);
        x.move(0, 8, 1);
        x.move(7, 8, 1);
        x.undo(1);
        x.move(7, 8, 1);
        s.due("told", Sheet.told(x), "2 3 1 0 5 5 0 0");
        x.undo(1);
        x.move(9, 7, 1);
        x.move(9, 7, 1);
        s.due("told", Sheet.told(x), "1 4 2 1 -3 -3 0 0");
        x.deal(0, 3);
        s.due("all begins anew but the money of the session", Sheet.told(x), "0 0 0 0 0 -3 0 0");
        s.due("nothing to undo", x.undo(1), 0);
    }

    private void numberOf() {
        s.promise = "6 numberOf";
        x = new Patiencery();
        s.due("numberOf(0)", x.numberOf(0), 0);
        s.due("numberOf(1)", x.numberOf(1), NONE);
        s.refused("numberOf(-1)", x, () -> x.numberOf(-1));
        s.refused("numberOf(2)", x, () -> x.numberOf(2));
        s.refused("numberOf(MANY)", x, () -> x.numberOf(MANY));
        x.deal(1, 7);
        s.due("1 of 1, 7", x.numberOf(1), 7);
        s.due("0 of 1, 7", x.numberOf(0), NONE);
        x.move(0, 2, 1);
        s.due("a move does not matter", x.numberOf(1), 7);
        x.deal(0, 500);
        s.due("500", x.numberOf(0), 500);
        x.deal(0, 501);
        s.due("501", x.numberOf(0), NONE);
        x.deck(1, 3);
        s.due("by the rules of the deal", x.numberOf(0), NONE);
        x.deal(0, 400);
        s.due("the lowest", x.numberOf(0), 2);
        s.due("by the other machine", x.numberOf(1), 0);
        x.deck(4, 4);
        x.odds(0, 77, 3, 2);
        s.due("what was dealt last, not looked at by odds", x.numberOf(0), 2);
    }

    private void moveArguments() {
        s.promise = "7 move, arguments";
        x = new Patiencery();
        int[][] wrong = {{-1, 0, 1}, {10, 0, 1}, {8, 0, 1}, {8, 8, 1}, {0, -1, 1}, {0, 9, 1}, {9, 9, 1}, {0, 10, 1},
            {0, 0, 1}, {5, 5, 1}, {7, 7, 1}, {4, 4, 1}, {0, 1, 0}, {0, 1, 17}, {0, 1, -1}, {0, 5, 2}, {0, 5, 0},
            {0, 8, 2}, {5, 0, 2}, {7, 0, 2}, {9, 7, 2}, {9, 7, 0}, {FEW, 0, 1}, {0, MANY, 1}, {0, 1, MANY}, {5, 6, 2},
            {3, 4, 17}, {6, 8, 0}, {MANY, 1, 1}, {9, 8, 16}};
        for (int[] w : wrong) {
            s.refused("move" + java.util.Arrays.toString(w), x, () -> x.move(w[0], w[1], w[2]));
        }
        int[][] none = {{0, 1, 1}, {0, 1, 16}, {0, 3, 1}, {3, 0, 1}, {3, 4, 16}, {0, 6, 1}, {6, 0, 1}, {5, 0, 1},
            {5, 6, 1}, {5, 8, 1}, {5, 7, 1}, {0, 7, 1}, {7, 0, 1}, {7, 5, 1}, {7, 8, 1}, {9, 7, 1}, {9, 0, 1}, {9, 5, 1},
            {9, 8, 1}, {0, 8, 1}, {4, 8, 1}, {6, 8, 1}, {4, 5, 1}};
        for (int[] w : none) {
            stateRefused("move" + java.util.Arrays.toString(w), x, () -> x.move(w[0], w[1], w[2]));
        }
    }

    private void moveSingles() {
        s.promise = "7 move, single cards";
        x = Sheet.ruled(2, 3, 3, 1, BY_COLOUR, HIGHEST, 1, 1);
        Sheet.dealing(x, 1, 0, 2, 3, 5, 4);
        s.due("dealt", Sheet.shown(x), "[1 3][0 5][2][][]c[]c[]w[]f[. . . .]s[4]");
        s.due("to a cell", x.move(1, 5, 1), 0);
        stateRefused("to a full cell", x, () -> x.move(2, 5, 1));
        s.due("an ace up", x.move(1, 8, 1), 1);
        s.due("the other ace up", x.move(0, 8, 1), 2);
        s.due("the next of its suit up", x.move(0, 8, 1), 3);
        s.due("shown", Sheet.shown(x), "[][][2][][]c[5]c[]w[]f[1 3 . .]s[4]");
        stateRefused("3 is not next to 1", x, () -> x.move(5, 8, 1));
        s.due("from the stock", x.move(9, 7, 1), 3);
        stateRefused("not of the greatest rank", x, () -> x.move(7, 0, 1));
        s.due("the greatest rank into an empty column", x.move(5, 0, 1), 3);
        stateRefused("of one colour, BY_COLOUR", x, () -> x.move(7, 0, 1));
        s.due("of unlike colours", x.move(7, 2, 1), 3);
        s.due("shown", Sheet.shown(x), "[5][][2 4][][]c[]c[]w[]f[1 3 . .]s[]");
        stateRefused("no stock and no waste", x, () -> x.move(9, 7, 1));
        s.due("column to column", x.move(2, 5, 1), 3);
        s.due("the greatest rank to an empty column", x.move(2, 1, 1), 3);
        s.due("cell to column", x.move(5, 1, 1), 3);
        s.due("column to cell", x.move(1, 5, 1), 3);
        s.due("cell up", x.move(5, 8, 1), 4);
        s.due("up", x.move(0, 8, 1), 5);
        s.due("all up", x.move(1, 8, 1), 6);
        s.due("told", Sheet.told(x), "6 14 0 0 16 16 1 0");
        s.due("no moves behind it", x.moves(), 0);
        x = Sheet.ruled(1, 3, 3, 0, BY_SUIT, NO_CARD);
        Sheet.dealing(x, 0, 1, 2);
        x.move(0, 8, 1);
        s.due("no card into empty columns", Sheet.listed(x), "[1201, 1801]");
    }

    private void moveFits() {
        s.promise = "7 move, what fits";
        // 0 A of suit 0, 1 two of suit 0, 3 two of suit 1, 5 two of suit 2; two ranks
        int[] builds = {BY_SUIT, BY_COLOUR, BY_RANK};
        String[] due = {"[1001, 1801]", "[1201, 1801]", "[1001, 1201, 1301, 1801]"};
        for (int build : builds) {
            x = Sheet.ruled(3, 2, 5, 0, build, NO_CARD);
            // columns: [1 ..][0][3][5][4 2]
            Sheet.dealing(x, 1, 0, 3, 5, 2, 4);
            // the last one lies on the first column: take it away
            s.due("dealt", Sheet.shown(x), "[1 4][0][3][5][2]c[]c[]w[]f[. . . .]s[]");
            x.move(0, 8, 1);
            x.move(4, 8, 1);
            s.due("shown", Sheet.shown(x), "[1][0][3][5][]c[]c[]w[]f[. 2 4 .]s[]");
            s.due("listed, build " + build, Sheet.listed(x).replace(", 2801, 3801", ""), due[build]);
            s.due("the others go up", Sheet.listed(x).endsWith(", 2801, 3801]") ? 1 : 0, 1);
        }
    }

    private void moveMany() {
        s.promise = "7 move, many cards";
        x = Sheet.ruled(1, 4, 2, 1, BY_SUIT, ANY);
        Sheet.dealing(x, 1, 3, 0, 2);
        s.due("dealt", Sheet.shown(x), "[1 0][3 2][][][]c[]c[]w[]f[. . . .]s[]");
        s.due("listed", Sheet.listed(x), "[102, 501, 801, 1501]");
        stateRefused("0 does not fit on 2", x, () -> x.move(0, 1, 1));
        stateRefused("there are no 3", x, () -> x.move(0, 1, 3));
        stateRefused("there are no 16", x, () -> x.move(0, 1, 16));
        s.due("two by a cell", x.move(0, 1, 2), 0);
        s.due("shown", Sheet.shown(x), "[][3 2 1 0][][][]c[]c[]w[]f[. . . .]s[]");
        s.due("the column to which they come does not count", Sheet.listed(x), "[1001, 1002, 1501, 1801]");
        x.table(2, 2, BY_SUIT, ANY);
        Sheet.dealing(x, 2, 3, 1, 0);
        s.due("dealt", Sheet.shown(x), "[2 1][3 0][][][]c[]c[]w[]f[. . . .]s[]");
        x.move(1, 5, 1);
        s.due("both fit", Sheet.listed(x), "[102, 601, 1601, 5001, 5801]");
        x.undo(1);
        Sheet.dealing(x, 2, 3, 0, 1);
        s.due("dealt", Sheet.shown(x), "[2 0][3 1][][][]c[]c[]w[]f[. . . .]s[]");
        x.move(1, 5, 1);
        stateRefused("2 fits on 3, but 0 not on 2", x, () -> x.move(0, 1, 2));
        x.table(2, 0, BY_SUIT, ANY);
        Sheet.dealing(x, 1, 3, 0, 2);
        stateRefused("two without a free place", x, () -> x.move(0, 1, 2));
        x.table(2, 2, BY_SUIT, ANY);
        Sheet.dealing(x, 1, 3, 0, 2);
        x.move(0, 1, 2);
        s.due("two cells", Sheet.listed(x), "[1001, 1002, 1003, 1501, 1601, 1801]");
        x.move(1, 5, 1);
        s.due("one of two cells", Sheet.listed(x), "[1001, 1002, 1601, 5001, 5101, 5801]");
        x = Sheet.ruled(1, 4, 5, 0, BY_SUIT, NO_CARD);
        Sheet.dealing(x, 1, 0, 2, 3);
        x.move(1, 0, 1);
        x.move(0, 2, 2);
        s.due("empty columns count also if no card comes into them", x.move(2, 3, 3), 0);
        s.due("shown", Sheet.shown(x), "[][][][3 2 1 0][]c[]c[]w[]f[. . . .]s[]");
        s.due("listed", Sheet.listed(x), "[3801]");
        x.table(5, 0, BY_SUIT, ANY);
        Sheet.dealing(x, 1, 0, 2, 3);
        stateRefused("three from one", x, () -> x.move(0, 4, 3));
        x.move(1, 0, 1);
        x.move(0, 2, 2);
        s.due("two empty ones beside the one to which they come", Sheet.listed(x),
            "[2001, 2002, 2003, 2101, 2102, 2103, 2303, 2401, 2402, 2403, 2801, 3001, 3101, 3401]");
        x.table(5, 0, BY_SUIT, HIGHEST);
        Sheet.dealing(x, 1, 0, 2, 3);
        x.move(1, 0, 1);
        x.move(0, 2, 2);
        s.due("the first one is of the greatest rank", Sheet.listed(x), "[2303, 2801, 3001, 3101, 3401]");
        x.move(2, 3, 3);
        s.due("all four by three others", Sheet.listed(x), "[3004, 3104, 3204, 3404, 3801]");
    }

    private void moveHidden() {
        s.promise = "7 move, hidden cards";
        x = Sheet.ruled(1, 5, 2, 1, BY_SUIT, ANY);
        x.stock(0, 0, true);
        // [? ? 0] over 2 1, and [? 4] over 3
        Sheet.dealing(x, 2, 3, 1, 4, 0);
        s.due("dealt", Sheet.shown(x), "[? ? 0][? 4][][][]c[]c[]w[]f[. . . .]s[]");
        s.due("told(7)", x.told(7), 3);
        stateRefused("hidden ones are not moved", x, () -> x.move(0, 1, 2));
        s.due("listed", Sheet.listed(x), "[501, 801, 1501]");
        x.move(0, 5, 1);
        s.due("the last one is turned", Sheet.shown(x), "[? 1][? 4][][][]c[0]c[]w[]f[. . . .]s[]");
        x.move(5, 0, 1);
        s.due("and stays so under another one", Sheet.shown(x), "[? 1 0][? 4][][][]c[]c[]w[]f[. . . .]s[]");
        s.due("told(7)", x.told(7), 2);
        x.move(1, 5, 1);
        s.due("shown", Sheet.shown(x), "[? 1 0][3][][][]c[4]c[]w[]f[. . . .]s[]");
        s.due("listed", Sheet.listed(x), "[801]");
        x.table(2, 2, BY_SUIT, ANY);
        // [2 1] with 2 hidden, [3 0] with 3 hidden
        Sheet.dealing(x, 2, 3, 1, 0, 4);
        s.due("dealt", Sheet.shown(x), "[? ? 4][? 0][][][]c[]c[]w[]f[. . . .]s[]");
        x.move(1, 5, 1);
        x.move(0, 6, 1);
        s.due("turned", Sheet.shown(x), "[? 1][3][][][]c[0]c[4]w[]f[. . . .]s[]");
        x.table(2, 1, BY_SUIT, ANY);
        x.deck(1, 4);
        Sheet.dealing(x, 2, 3, 1, 0);
        x.move(1, 8, 1);
        s.due("2 fits on 3, and 1 on 2, but 2 lies hidden", Sheet.shown(x) + Sheet.listed(x),
            "[? 1][3][][][]c[]c[]w[]f[0 . . .]s[][501, 801, 1501]");
        stateRefused("none hidden", x, () -> x.move(0, 1, 2));
    }

    private void moveStock() {
        s.promise = "7 move, the stock";
        x = Sheet.ruled(1, 4, 1, 1, BY_SUIT, ANY, 3, 2);
        Sheet.dealing(x, 1, 0, 2, 3);
        s.due("dealt", Sheet.shown(x), "[1][][][][]c[]c[]w[]f[. . . .]s[3 2 0]");
        for (int turn = 0; turn <= 2; turn++) {
            s.due("turned", x.told(3), turn);
            x.move(9, 7, 1);
            x.move(9, 7, 1);
            s.due("some", Sheet.shown(x), "[1][][][][]c[]c[]w[2 3]f[. . . .]s[0]");
            x.move(9, 7, 1);
            s.due("all", Sheet.shown(x), "[1][][][][]c[]c[]w[0 2 3]f[. . . .]s[]");
            s.due("listed", Sheet.listed(x), turn < 2 ? "[501, 7001, 7501, 7801, 9701]" : "[501, 7001, 7501, 7801]");
            if (turn < 2) {
                s.due("turned over", x.move(9, 7, 1), 0);
                s.due("as at first", Sheet.shown(x), "[1][][][][]c[]c[]w[]f[. . . .]s[3 2 0]");
            }
        }
        stateRefused("three times", x, () -> x.move(9, 7, 1));
        s.due("waste to a column", x.move(7, 0, 1), 0);
        s.due("waste to a cell", x.move(7, 5, 1), 0);
        s.due("shown", Sheet.shown(x), "[1 0][][][][]c[2]c[]w[3]f[. . . .]s[]");
        x.undo(2);
        s.due("waste up", x.move(7, 8, 1), 1);
        x = Sheet.ruled(1, 4, 1, 1, BY_SUIT, ANY, 3, 0);
        Sheet.dealing(x, 1, 0, 2, 3);
        x.move(9, 7, 1);
        x.move(9, 7, 1);
        x.move(9, 7, 1);
        stateRefused("not again", x, () -> x.move(9, 7, 1));
    }

    /** Two columns, and a third one that is empty: a card goes there and back. */
    private static Patiencery endless() {
        Patiencery x = Sheet.ruled(1, 2, 3, 0, BY_SUIT, ANY);
        Sheet.dealing(x, 1, 0);
        return x;
    }

    private static void toAndFro(Patiencery x, int many) {
        for (int n = 0; n < many; n++) {
            int from = x.card(0, 0) == 1 ? 0 : 2;
            x.move(from, 2 - from, 1);
        }
    }

    private void moveLast() {
        s.promise = "7 move, 200 moves";
        x = endless();
        toAndFro(x, 200);
        s.due("told", Sheet.told(x), "0 200 0 0 -200 -200 0 0");
        s.refused("a wrong argument comes first", x, () -> x.move(0, 0, 1));
        s.refused("a wrong number too", x, () -> x.move(0, 1, 17));
        stateRefused("200 were done", x, () -> x.move(1, 8, 1));
        s.due("there are moves still", Sheet.listed(x), "[201, 1001, 1201, 1801]");
        s.due("a hint still", x.hint(), 1801);
        s.due("safe() does none", x.safe(), 0);
        s.due("undo(200)", x.undo(200), 200);
        s.due("told", Sheet.told(x), "0 0 200 0 -400 -400 0 0");
        toAndFro(x, 199);
        s.due("the last move", x.move(1, 8, 1), 1);
        stateRefused("200 were done again", x, () -> x.move(2, 8, 1));
        x.undo(1);
        s.due("one of two safe ones", x.safe(), 1);
        s.due("told", Sheet.told(x), "1 200 201 0 -597 -597 0 0");
        x.undo(2);
        s.due("both", x.safe(), 2);
    }

    private void undoArguments() {
        s.promise = "8 undo, arguments";
        x = new Patiencery();
        int[] wrong = {0, -1, 201, MANY, FEW};
        for (int w : wrong) {
            s.refused("undo(" + w + ")", x, () -> x.undo(w));
        }
        s.due("nothing to undo", x.undo(200), 0);
        s.due("told", Sheet.told(x), "0 0 0 0 0 0 0 0");
    }

    private void undoAll() {
        s.promise = "8 undo";
        x = Sheet.ruled(1, 4, 1, 2, BY_SUIT, ANY, 2, 1);
        x.stock(2, 1, true);
        Sheet.dealing(x, 2, 0, 1, 3);
        s.due("dealt", Sheet.shown(x), "[? 0][][][][]c[]c[]w[]f[. . . .]s[3 1]");
        int[][] moves = {{9, 7}, {9, 7}, {9, 7}, {0, 6}, {9, 7}, {9, 7}, {7, 0}, {6, 0}, {0, 8}, {0, 8}};
        String[] were = new String[moves.length];
        for (int n = 0; n < moves.length; n++) {
            were[n] = Sheet.shown(x) + " " + x.told(0) + x.told(1) + x.told(3) + x.told(7) + Sheet.listed(x);
            x.move(moves[n][0], moves[n][1], 1);
        }
        s.due("shown", Sheet.shown(x), "[2][][][][]c[]c[]w[3]f[1 . . .]s[]");
        s.due("told", Sheet.told(x), "2 10 0 1 0 0 0 0");
        for (int n = moves.length - 1; n >= 0; n--) {
            s.due("undo(1)", x.undo(1), 1);
            s.due("as ahead of move " + n, Sheet.shown(x) + " " + x.told(0) + x.told(1) + x.told(3) + x.told(7)
                + Sheet.listed(x), were[n]);
        }
        s.due("told", Sheet.told(x), "0 0 10 0 -20 -20 0 1");
        s.due("nothing left", x.undo(1), 0);
        for (int[] m : moves) {
            x.move(m[0], m[1], 1);
        }
        s.due("undo(4)", x.undo(4), 4);
        s.due("four back", Sheet.shown(x) + " " + x.told(0) + x.told(1) + x.told(3) + x.told(7) + Sheet.listed(x), were[6]);
        s.due("undo(7), but there are 6", x.undo(7), 6);
        s.due("all back", Sheet.shown(x) + " " + x.told(0) + x.told(1) + x.told(3) + x.told(7) + Sheet.listed(x), were[0]);
        s.due("told", Sheet.told(x), "0 0 20 0 -40 -40 0 1");
    }

    private void safe() {
        s.promise = "9 safe";
        // 2 suits of 3: 0 1 2, 3 4 5
        x = Sheet.ruled(2, 3, 3, 0, BY_COLOUR, NO_CARD);
        Sheet.dealing(x, 2, 3, 5, 1, 4, 0);
        s.due("dealt", Sheet.shown(x), "[2 1][3 4][5 0][][]c[]c[]w[]f[. . . .]s[]");
        s.due("0 goes up, but 1 is waited for by 3", x.safe(), 1);
        s.due("shown", Sheet.shown(x), "[2 1][3 4][5][][]c[]c[]w[]f[0 . . .]s[]");
        s.due("1 may go all the same", x.move(0, 8, 1), 2);
        s.due("4 fits on 2", x.safe(), 0);
        x.undo(1);
        x.table(3, 0, BY_SUIT, NO_CARD);
        Sheet.dealing(x, 2, 3, 5, 1, 4, 0);
        s.due("BY_SUIT all up is safe", x.safe(), 3);
        s.due("shown", Sheet.shown(x), "[][3 4][5][][]c[]c[]w[]f[2 . . .]s[]");
        x.table(3, 1, BY_RANK, NO_CARD);
        Sheet.dealing(x, 2, 3, 5, 1, 4, 0);
        s.due("BY_RANK", x.safe(), 1);
        x.move(1, 5, 1);
        s.due("the other ace, then both twos", x.safe(), 5);
        s.due("all", Sheet.told(x), "6 7 0 0 23 37 1 0");
        // BY_RANK waits for the ace of its own colour too, BY_COLOUR does not: suits 0, 1, 2 of 2 ranks
        x = Sheet.ruled(3, 2, 5, 0, BY_COLOUR, NO_CARD);
        Sheet.dealing(x, 4, 1, 0, 3, 2, 5);
        s.due("dealt", Sheet.shown(x), "[4 5][1][0][3][2]c[]c[]w[]f[. . . .]s[]");
        // by order: 0, then 2 since it is an ace, then 1 is safe, 3 waits for 4
        s.due("safe()", x.safe(), 3);
        s.due("shown", Sheet.shown(x), "[4 5][][][3][]c[]c[]w[]f[1 2 . .]s[]");
        x.table(5, 0, BY_RANK, NO_CARD);
        Sheet.dealing(x, 4, 1, 0, 3, 2, 5);
        s.due("safe() BY_RANK", x.safe(), 2);
        s.due("shown", Sheet.shown(x), "[4 5][1][][3][]c[]c[]w[]f[0 2 . .]s[]");
        // from a cell, and from the waste; not from the stock
        x = Sheet.ruled(1, 3, 1, 1, BY_SUIT, NO_CARD, 2, 0);
        Sheet.dealing(x, 1, 2, 0);
        x.move(0, 5, 1);
        s.due("the stock is not looked at", x.safe(), 0);
        x.move(9, 7, 1);
        s.due("waste, then cell", x.safe(), 2);
        s.due("shown", Sheet.shown(x), "[][][][][]c[]c[]w[]f[1 . . .]s[2]");
        s.due("undo counts them one by one", x.undo(1), 1);
        s.due("shown", Sheet.shown(x), "[][][][][]c[1]c[]w[]f[0 . . .]s[2]");
    }

    private void safeOrder() {
        s.promise = "9 safe, order";
        x = Sheet.ruled(4, 1, 2, 1, BY_SUIT, ANY);
        Sheet.dealing(x, 3, 1, 0, 2);
        x.move(0, 5, 1);
        s.due("shown", Sheet.shown(x), "[3][1 2][][][]c[0]c[]w[]f[. . . .]s[]");
        s.due("safe()", x.safe(), 4);
        x.undo(1);
        s.due("the cell was last", Sheet.shown(x), "[][][][][]c[0]c[]w[]f[. 1 2 3]s[]");
        x.undo(2);
        s.due("column 0 was first", Sheet.shown(x), "[][1 2][][][]c[0]c[]w[]f[. . . 3]s[]");
        s.due("from a table of one's own", x.safe(), 3);
        s.due("when it is won", x.safe(), 0);
    }

    private void movesAndMoveAt() {
        s.promise = "10 moves, 11 moveAt";
        x = Sheet.ruled(2, 4, 3, 2, BY_COLOUR, ANY, 2, 0);
        Sheet.dealing(x, 6, 3, 0, 5, 2, 1, 7, 4);
        s.due("dealt", Sheet.shown(x), "[6 5][3 2][0 1][][]c[]c[]w[]f[. . . .]s[4 7]");
        s.due("moves()", x.moves(), 8);
        int[] due = {101, 501, 601, 1501, 1601, 2501, 2601, 9701};
        for (int n = 0; n < due.length; n++) {
            s.due("moveAt(" + n + ")", x.moveAt(n), due[n]);
        }
        s.due("moveAt(8)", x.moveAt(8), NONE);
        s.due("moveAt(MANY)", x.moveAt(MANY), NONE);
        s.refused("moveAt(-1)", x, IndexOutOfBoundsException.class, () -> x.moveAt(-1));
        s.refused("moveAt(FEW)", x, IndexOutOfBoundsException.class, () -> x.moveAt(FEW));
        x.move(9, 7, 1);
        x.move(2, 6, 1);
        s.due("behind", Sheet.listed(x), "[101, 501, 1501, 2001, 2501, 2801, 7501, 7801, 9701]");
        s.due("moves()", x.moves(), 9);
        Patiencery y = Sheet.ruled(1, 2, 1, 0, BY_SUIT, ANY);
        Sheet.dealing(y, 0, 1);
        s.due("no moves", y.moves(), 0);
        s.due("moveAt(0)", y.moveAt(0), NONE);
    }

    private void card() {
        s.promise = "12 card";
        x = Sheet.ruled(2, 4, 2, 1, BY_COLOUR, ANY, 3, 0);
        x.stock(3, 0, true);
        Sheet.dealing(x, 1, 6, 2, 3, 0, 4, 7, 5);
        s.due("dealt", Sheet.shown(x), "[? ? 0][? 3][][][]c[]c[]w[]f[. . . .]s[5 7 4]");
        x.move(1, 5, 1);
        x.move(9, 7, 1);
        x.move(9, 7, 1);
        x.move(0, 8, 1);
        s.due("shown", Sheet.shown(x), "[? 2][6][][][]c[3]c[]w[7 5]f[0 . . .]s[4]");
        int[][] due = {{0, 0, UNKNOWN}, {0, 1, 2}, {0, 2, NONE}, {0, MANY, NONE}, {1, 0, 6}, {1, 1, NONE}, {2, 0, NONE},
            {4, 0, NONE}, {5, 0, 3}, {5, 1, NONE}, {5, MANY, NONE}, {6, 0, NONE}, {7, 0, 7}, {7, 1, 5}, {7, 2, NONE},
            {8, 0, 0}, {8, 1, NONE}, {8, 2, NONE}, {8, 4, NONE}, {8, MANY, NONE}, {9, 0, 4}, {9, 1, NONE}, {9, MANY, NONE}};
        for (int[] d : due) {
            s.due("card(" + d[0] + ", " + d[1] + ")", x.card(d[0], d[1]), d[2]);
        }
        int[][] wrong = {{-1, 0}, {10, 0}, {0, -1}, {8, -1}, {9, FEW}, {MANY, 0}, {FEW, FEW}, {5, -1}, {7, -1}};
        for (int[] w : wrong) {
            s.refused("card(" + w[0] + ", " + w[1] + ")", x, () -> x.card(w[0], w[1]));
        }
    }

    private void told() {
        s.promise = "13 told";
        x = new Patiencery();
        int[] wrong = {-1, 8, MANY, FEW};
        for (int w : wrong) {
            s.refused("told(" + w + ")", x, () -> x.told(w));
        }
        x.move(1, 8, 1);
        s.due("5 for a card, less 1 for a move", Sheet.told(x), "1 1 0 0 4 4 0 0");
        x.move(0, 5, 1);
        x.undo(1);
        s.due("less 2 for one undone, which is none any more", Sheet.told(x), "1 1 1 0 2 2 0 0");
        x.deck(2, 1);
        x.table(1, 0, BY_SUIT, ANY);
        x.deal(0, 0);
        s.due("the money of the session", Sheet.told(x), "0 0 0 0 0 2 0 0");
        x.safe();
        s.due("it is won", Sheet.told(x), "2 2 0 0 8 10 1 0");
        x.undo(1);
        s.due("it is not won any more", Sheet.told(x), "1 1 1 0 2 4 0 0");
        x.deal(0, 1);
        x.deal(0, 2);
        s.due("of all deals", Sheet.told(x), "0 0 0 0 0 4 0 0");
        x = Sheet.ruled(1, 3, 1, 0, BY_SUIT, ANY, 2, 2);
        Sheet.dealing(x, 2, 1, 0);
        for (int n = 0; n < 6; n++) {
            x.move(9, 7, 1);
        }
        s.due("turned twice", Sheet.told(x), "0 6 0 2 -6 -6 0 0");
        x.undo(1);
        s.due("turned once", Sheet.told(x), "0 5 1 1 -7 -7 0 0");
    }

    private void search() {
        s.promise = "14 search, 15 known";
        x = Sheet.ruled(1, 2, 1, 0, BY_SUIT, ANY);
        int[] wrong = {0, -1, 401, MANY, FEW};
        for (int w : wrong) {
            s.refused("search(" + w + ")", x, () -> x.search(w));
            s.refused("known(" + w + ")", x, () -> x.known(w));
        }
        Sheet.dealing(x, 1, 0);
        searched("two up", x, new int[][] {{1, UNKNOWN, 1}, {2, UNKNOWN, 2}, {3, 2, 3}, {4, 2, 3}, {400, 2, 3}});
        x.move(0, 8, 1);
        searched("one up", x, new int[][] {{1, UNKNOWN, 1}, {2, 1, 2}, {400, 1, 2}});
        x.move(0, 8, 1);
        searched("won", x, new int[][] {{1, 0, 1}, {400, 0, 1}});
        Sheet.dealing(x, 0, 1);
        searched("no moves", x, new int[][] {{1, LOST, 1}, {2, LOST, 1}, {400, LOST, 1}});
        // [0 1] and two empty columns: all empty columns are alike
        x = Sheet.ruled(1, 2, 3, 0, BY_SUIT, ANY);
        Sheet.dealing(x, 1, 0);
        s.due("shown", Sheet.shown(x), "[1][0][][][]c[]c[]w[]f[. . . .]s[]");
        // start, [1 0], 0 up, both up
        searched("columns are alike", x, new int[][] {{1, UNKNOWN, 1}, {2, UNKNOWN, 2}, {3, UNKNOWN, 3}, {4, 2, 4}});
        // [0 1]: 1 to a cell, both in cells or 0 up, [1] and cell 0, 0 up and [1], won
        x = Sheet.ruled(1, 2, 1, 2, BY_SUIT, ANY);
        Sheet.dealing(x, 0, 1);
        searched("cells are alike", x, new int[][] {{6, UNKNOWN, 6}, {7, 3, 7}, {400, 3, 7}});
        // [0 2], 1 in the stock: each turning makes positions of its own; lost
        for (int again = 0; again < 3; again++) {
            x = Sheet.ruled(1, 3, 1, 0, BY_SUIT, ANY, 1, again);
            Sheet.dealing(x, 0, 2, 1);
            int all = 3 * again + 3;
            searched("turned", x, new int[][] {{all - 1, UNKNOWN, all - 1}, {all, LOST, all}, {400, LOST, all}});
        }
        // [1 0], 1 hidden: 0 in a cell and back shows another position
        x = Sheet.ruled(1, 2, 1, 1, BY_SUIT, ANY);
        x.stock(0, 0, true);
        Sheet.dealing(x, 1, 0);
        searched("hidden", x, new int[][] {{5, UNKNOWN, 5}, {6, 2, 6}});
        x.stock(0, 0, false);
        Sheet.dealing(x, 1, 0);
        searched("not hidden", x, new int[][] {{4, UNKNOWN, 4}, {5, 2, 5}});
        // [1], 0 in the stock: a cell and the waste are not alike
        x = Sheet.ruled(1, 2, 1, 1, BY_SUIT, NO_CARD, 1, 0);
        Sheet.dealing(x, 1, 0);
        searched("cell and waste", x, new int[][] {{8, UNKNOWN, 8}, {9, 3, 9}});
        x = new Patiencery();
        searched("at first", x, new int[][] {{20, UNKNOWN, 20}, {150, UNKNOWN, 150}, {151, 9, 151}, {400, 9, 151}});
        String before = Sheet.shown(x) + Sheet.told(x);
        x.search(400);
        s.due("nothing changes", Sheet.shown(x) + Sheet.told(x), before);
        Patiencery y = endless();
        toAndFro(y, 200);
        searched("behind 200 moves", y, new int[][] {{400, 2, 4}});
    }

    private void searched(String what, Patiencery x, int[][] due) {
        for (int[] d : due) {
            s.due(what + ", search(" + d[0] + ")", x.search(d[0]), d[1]);
            s.due(what + ", known(" + d[0] + ")", x.known(d[0]), d[2]);
        }
    }

    private void hint() {
        s.promise = "16 hint";
        x = new Patiencery();
        s.due("more than 100 positions", x.hint(), NONE);
        x = Sheet.ruled(1, 2, 1, 1, BY_SUIT, ANY);
        Sheet.dealing(x, 1, 0);
        s.due("up, not to the cell", x.hint(), 801);
        x.move(0, 5, 1);
        s.due("from the cell", x.hint(), 5801);
        x.move(5, 8, 1);
        s.due("the last one", x.hint(), 801);
        x.move(0, 8, 1);
        s.due("when it is won", x.hint(), NONE);
        x.table(1, 0, BY_SUIT, ANY);
        Sheet.dealing(x, 0, 1);
        s.due("when it is lost", x.hint(), NONE);
        x.table(1, 2, BY_SUIT, ANY);
        Sheet.dealing(x, 0, 1);
        s.due("the first of two cells", x.hint(), 501);
        x = Sheet.ruled(1, 3, 1, 0, BY_SUIT, ANY, 2, 1);
        Sheet.dealing(x, 2, 0, 1);
        s.due("from the stock", x.hint(), 9701);
        x.move(9, 7, 1);
        s.due("not the first move, but one that is shorter", Sheet.listed(x) + x.hint(), "[7001, 9701]9701");
        // the bound is 100
        x = Sheet.ruled(2, 2, 1, 2, BY_COLOUR, HIGHEST, 2, 1);
        x.deal(0, 7);
        searched("100 positions", x, new int[][] {{99, UNKNOWN, 99}, {100, 6, 100}});
        s.due("100 positions", x.hint(), 9701);
        x = Sheet.ruled(2, 2, 1, 2, BY_COLOUR, NO_CARD, 2, 1);
        x.deal(0, 4);
        searched("101 positions", x, new int[][] {{100, UNKNOWN, 100}, {101, 6, 101}});
        s.due("101 positions", x.hint(), NONE);
        // behind 501 there are more than 100 positions
        x = Sheet.ruled(2, 2, 1, 2, BY_COLOUR, HIGHEST, 2, 1);
        x.deal(0, 1);
        s.due("not the first move, which is not known", Sheet.listed(x) + x.hint(), "[501, 601, 801, 9701]801");
        x.move(0, 5, 1);
        s.due("which is not known", x.search(100), UNKNOWN);
        x = Sheet.ruled(2, 3, 2, 1, BY_COLOUR, ANY);
        x.deal(0, 16);
        s.due("shown", Sheet.shown(x), "[0 1 5][4 2 3][][][]c[]c[]w[]f[. . . .]s[]");
        s.due("not the first move, which loses", Sheet.listed(x) + x.hint(), "[501, 1501, 1801]1801");
        s.due("8 steps", x.search(100), 8);
        x.move(0, 5, 1);
        s.due("lost", x.search(100), LOST);
        s.due("no hint in what is lost, though there are moves", x.moves() > 0 ? x.hint() : 0, NONE);
        x.undo(1);
        String before = Sheet.shown(x) + Sheet.told(x);
        x.hint();
        s.due("nothing changes", Sheet.shown(x) + Sheet.told(x), before);
        Model m = new Model();
        Patiencery y = new Patiencery();
        for (int number = 0; number < 12; number++) {
            m.deck(2, 3);
            y.deck(2, 3);
            m.deal(0, number);
            y.deal(0, number);
            int steps = y.search(100);
            while (steps > 0 && y.hint() != NONE && y.told(1) < 50) {
                int code = y.hint();
                s.due("hint()", code, m.hint());
                y.move(code / 1000, code / 100 % 10, code % 100);
                m.move(code / 1000, code / 100 % 10, code % 100);
                steps--;
                s.due("one step less", y.search(100), steps);
            }
        }
    }

    private void odds() {
        s.promise = "17 odds";
        x = Sheet.ruled(1, 2, 1, 0, BY_SUIT, ANY);
        // the machine 0 draws 1 0, which is won, of the numbers 1, 2, 4 and 7 below 8
        s.due("odds(0, 0, 8, 3)", x.odds(0, 0, 8, 3), 44);
        s.due("odds(0, 0, 8, 200)", x.odds(0, 0, 8, 200), 44);
        s.due("a bound too low", x.odds(0, 0, 8, 2), 4);
        s.due("a bound of 1", x.odds(0, 0, 8, 1), 4);
        s.due("odds(0, 0, 5, 9)", x.odds(0, 0, 5, 9), 32);
        s.due("odds(0, 1, 2, 9)", x.odds(0, 1, 2, 9), 20);
        s.due("odds(0, 0, 1, 9)", x.odds(0, 0, 1, 9), 1);
        s.due("odds(1, 0, 8, 9)", x.odds(1, 0, 8, 9), 35);
        s.due("odds(1, 3, 3, 9)", x.odds(1, 3, 3, 9), 30);
        s.due("odds(0, 1000000, 8, 9)", x.odds(0, 1000000, 8, 9), 44);
        s.due("odds(1, 1000000, 5, 9)", x.odds(1, 1000000, 5, 9), 32);
        s.due("the deal stays", Sheet.shown(x), "[6 2 7][5 3 0][4 1][][]c[]c[]w[]f[. . . .]s[]");
        s.due("its rules too", Sheet.listed(x), "[501, 1501, 1801, 2501]");
        s.due("its search too", x.known(400), 151);
        int[][] wrong = {{-1, 0, 1, 1}, {2, 0, 1, 1}, {0, -1, 1, 1}, {0, 1000001, 1, 1}, {0, 0, 0, 1}, {0, 0, 9, 1},
            {0, 0, 1, 0}, {0, 0, 1, 201}, {MANY, MANY, MANY, MANY}, {0, 0, -1, 1}, {0, 0, 1, FEW}};
        for (int[] w : wrong) {
            s.refused("odds" + java.util.Arrays.toString(w), x, () -> x.odds(w[0], w[1], w[2], w[3]));
        }
        x.table(1, 2, BY_SUIT, ANY);
        s.due("by the next rules", x.odds(0, 0, 8, 200), 80);
        x.table(1, 2, BY_SUIT, ANY);
        s.due("some are not known: 0 1 needs 7 positions", x.odds(0, 0, 8, 6), 40);
    }

    public static void main(String[] args) {
        PromisesTest t = new PromisesTest();
        t.constants();
        t.newObject();
        t.deck();
        t.table();
        t.stock();
        t.deal();
        t.numberOf();
        t.moveArguments();
        t.moveSingles();
        t.moveFits();
        t.moveMany();
        t.moveHidden();
        t.moveStock();
        t.moveLast();
        t.undoArguments();
        t.undoAll();
        t.safe();
        t.safeOrder();
        t.movesAndMoveAt();
        t.card();
        t.told();
        t.search();
        t.hint();
        t.odds();
        System.out.println("PromisesTest: " + t.s.looked + " looked at, " + t.s.wrong + " wrong");
        if (t.s.wrong != 0) {
            System.exit(1);
        }
    }
}
