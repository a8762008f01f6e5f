/** Empty and full columns, cells, waste, stock and foundations; what just fits, and what just does not. */
public final class PlacesTest {
    private static final int BY_SUIT = Patiencery.BY_SUIT, BY_COLOUR = Patiencery.BY_COLOUR;
    private static final int BY_RANK = Patiencery.BY_RANK;
    private static final int ANY = Patiencery.ANY_CARD, HIGHEST = Patiencery.HIGHEST, NO_CARD = Patiencery.NO_CARD;
    private static final int NONE = Patiencery.NONE, UNKNOWN = Patiencery.UNKNOWN;

    private final Sheet s = new Sheet();

    private void noMove(String what, Patiencery x, int from, int to, int many) {
        s.refused(what, x, IllegalStateException.class, () -> x.move(from, to, many));
    }

    private void shown(String what, Patiencery x, String due) {
        s.due(what, Sheet.shown(x), due);
    }

    // ---- decks and deals

    private void leastDecks() {
        s.promise = "the least decks: 2 cards";
        Patiencery x = Sheet.ruled(1, 2, 5, 0, BY_SUIT, ANY);
        s.due("2 cards in 5 columns", Sheet.dealing(x, 1, 0), 2);
        shown("three are empty", x, "[1][0][][][]c[]c[]w[]f[. . . .]s[]");
        s.due("they are there", Sheet.listed(x), "[201, 301, 401, 1001, 1201, 1301, 1401, 1801]");
        x = Sheet.ruled(2, 1, 1, 0, BY_SUIT, ANY);
        s.due("2 suits of 1 rank", Sheet.dealing(x, 1, 0), 2);
        s.due("each is the first of its suit", Sheet.listed(x), "[801]");
        x.safe();
        shown("both up", x, "[][][][][]c[]c[]w[]f[0 1 . .]s[]");
        s.due("won", x.told(6), 1);
        x = Sheet.ruled(1, 2, 1, 0, BY_SUIT, ANY, 1, 0);
        s.due("one in a column, one in the stock", Sheet.dealing(x, 1, 0), 1);
        shown("the last one is stock", x, "[1][][][][]c[]c[]w[]f[. . . .]s[0]");
        x = Sheet.ruled(4, 1, 5, 0, BY_RANK, ANY);
        s.due("4 suits of 1 rank", Sheet.dealing(x, 2, 3, 1, 0), 4);
        s.due("no card fits on another one, and all go up", Sheet.listed(x),
            "[401, 801, 1401, 1801, 2401, 2801, 3401, 3801]");
    }

    private void greatestDecks() {
        s.promise = "the greatest decks: 16 cards";
        Patiencery x = Sheet.ruled(4, 4, 1, 0, BY_RANK, ANY);
        s.due("16 in a column", x.deal(0, 617), 16);
        shown("a full column", x, "[5 10 0 7 12 13 3 2 15 8 11 4 1 14 9 6][][][][]c[]c[]w[]f[. . . .]s[]");
        s.due("the last one of a full column", x.card(0, 15), 6);
        s.due("behind it", x.card(0, 16), NONE);
        s.due("no other column, no cells, no first one of a suit", x.moves(), 0);
        x = Sheet.ruled(4, 4, 1, 2, BY_RANK, ANY);
        x.deal(0, 617);
        x.move(0, 6, 1);
        noMove("6 does not fit on 9", x, 6, 0, 1);
        x = Sheet.ruled(4, 4, 5, 2, BY_RANK, ANY, 8, 2);
        s.due("8 in columns, 8 in the stock", x.deal(0, 617), 8);
        shown("both", x, "[5 13][10 3][0 2][7][12]c[]c[]w[]f[. . . .]s[6 9 14 1 4 11 8 15]");
        x = Sheet.ruled(4, 4, 5, 0, BY_RANK, ANY);
        s.due("16 in 5 columns", x.deal(0, 617), 16);
        shown("the first column has one more", x, "[5 13 11 6][10 3 4][0 2 1][7 15 14][12 8 9]c[]c[]w[]f[. . . .]s[]");
    }

    /** The card that is taken may be the last one of the row itself, and the last card is taken from a row of one. */
    private void deals() {
        s.promise = "5 deal, both machines, the least and the greatest number";
        String[] due = {"[0 1]", "[1 0]"};
        for (int machine = 0; machine <= 1; machine++) {
            // the machine 0 draws 32767 of 30091 and 0 of 20057 first, the machine 1 of 24884 and of 26579
            for (int number : new int[] {0, 1, 2, 20057, 24884, 26579, 30091, 32767, 32768, 999999, 1000000}) {
                Patiencery x = Sheet.ruled(1, 2, 1, 0, BY_SUIT, ANY);
                x.deal(machine, number);
                long next = machine == 0 ? number * 214013L + 2531011L : number * 1103515245L + 12345L;
                int place = (int) (next % (1L << 31) / 65536 % 32768 % 2);
                s.due("deal(" + machine + ", " + number + ")", Sheet.shown(x).substring(0, 5), due[place]);
            }
            for (int number = 0; number <= 1000000; number += 62500) {
                Patiencery x = Sheet.ruled(4, 4, 1, 0, BY_SUIT, ANY);
                x.deal(machine, number);
                StringBuilder order = new StringBuilder();
                for (int card : drawn(machine, number, 16)) {
                    order.append(order.length() == 0 ? "[" : " ").append(card);
                }
                s.due("16 of " + machine + ", " + number, Sheet.shown(x), order + "][][][][]c[]c[]w[]f[. . . .]s[]");
            }
        }
    }

    private static int[] drawn(int machine, int number, int cards) {
        int[] row = new int[cards];
        for (int card = 0; card < cards; card++) {
            row[card] = card;
        }
        int[] taken = new int[cards];
        long x = number;
        for (int left = cards; left > 0; left--) {
            x = (machine == 0 ? x * 214013 + 2531011 : x * 1103515245 + 12345) % 2147483648L;
            int place = (int) (x / 65536 % 32768 % left);
            taken[cards - left] = row[place];
            row[place] = row[left - 1];
        }
        return taken;
    }

    private void numbers() {
        s.promise = "6 numberOf, up to 500";
        for (int machine = 0; machine <= 1; machine++) {
            Patiencery x = Sheet.ruled(4, 4, 3, 0, BY_SUIT, ANY);
            for (int number : new int[] {0, 1, 499, 500}) {
                x.deal(machine, number);
                s.due("of " + number + " by machine " + machine, x.numberOf(machine), number);
                s.due("of " + number + " by the other machine", x.numberOf(1 - machine), NONE);
            }
            for (int number : new int[] {501, 502, 1000000}) {
                x.deal(machine, number);
                s.due("of " + number + " by machine " + machine, x.numberOf(machine), NONE);
            }
            Patiencery y = Sheet.ruled(1, 2, 3, 0, BY_SUIT, ANY);
            y.deal(machine, 1000000);
            int[] order = drawn(machine, 1000000, 2);
            int lowest = 0;
            while (drawn(machine, lowest, 2)[0] != order[0]) {
                lowest++;
            }
            s.due("the lowest one that gives it", y.numberOf(machine), lowest);
            y.deck(4, 4);
            s.due("by the rules of the deal", y.numberOf(machine), lowest);
        }
    }

    // ---- columns

    private void emptyColumns() {
        s.promise = "empty columns";
        Patiencery x = Sheet.ruled(1, 3, 5, 2, BY_SUIT, ANY);
        Sheet.dealing(x, 1, 0, 2);
        shown("3 and 4 are empty", x, "[1][0][2][][]c[]c[]w[]f[. . . .]s[]");
        for (int place = 3; place <= 4; place++) {
            s.due("card(" + place + ", 0)", x.card(place, 0), NONE);
            s.due("card(" + place + ", 15)", x.card(place, 15), NONE);
            for (int to = 0; to <= 7; to++) {
                if (to != place) {
                    noMove("from the empty column " + place + " to " + to, x, place, to, 1);
                }
            }
            noMove("up from an empty column", x, place, 8, 1);
            noMove("many from an empty column", x, place, 0, 2);
            noMove("16 from an empty column", x, place, 0, 16);
            noMove("from an empty column to an empty one", x, place, 7 - place, 1);
        }
        x.move(0, 3, 1);
        shown("any card comes into an empty one", x, "[][0][2][1][]c[]c[]w[]f[. . . .]s[]");
        noMove("the column is empty now", x, 0, 4, 1);
        x.move(3, 0, 1);
        shown("and back", x, "[1][0][2][][]c[]c[]w[]f[. . . .]s[]");
    }

    /** ANY_CARD, HIGHEST and NO_CARD, from each kind of place from which a card may come to a column. */
    private void intoEmptyColumns() {
        s.promise = "into empty columns";
        // any card; 2 and 5, the highest ones, alone; none: 4 fits on 2 all the same
        String[] due = {"[101, 201, 301, 401, 601, 5101, 5201, 5301, 5401, 7001, 7101, 7201, 7301, 7401, 7601, 9701]",
            "[101, 201, 301, 401, 601, 5101, 5201, 5301, 5401, 7001, 7601, 9701]", "[601, 7001, 7601, 9701]"};
        for (int empty = ANY; empty <= NO_CARD; empty++) {
            // 2 in a column, 5 in a cell (both of rank 3), 4 on the waste (of rank 2): ranks are 3
            Patiencery x = Sheet.ruled(2, 3, 5, 2, BY_RANK, empty, 4, 0);
            Sheet.dealing(x, 2, 5, 3, 0, 1, 4);
            shown("dealt", x, "[2][5][][][]c[]c[]w[]f[. . . .]s[4 1 0 3]");
            x.move(9, 7, 1);
            x.move(1, 5, 1);
            shown("behind both", x, "[2][][][][]c[5]c[]w[4]f[. . . .]s[1 0 3]");
            s.due("what comes into empty ones: " + empty, Sheet.listed(x), due[empty]);
        }
    }

    private void fullColumn() {
        s.promise = "a full column";
        Patiencery x = Sheet.ruled(4, 4, 1, 1, BY_RANK, ANY);
        x.stock(0, 0, true);
        x.deal(0, 617);
        s.due("15 lie hidden", x.told(7), 15);
        s.due("the first one", x.card(0, 0), UNKNOWN);
        s.due("the last one but one", x.card(0, 14), UNKNOWN);
        s.due("the last one", x.card(0, 15), 6);
        s.due("behind it", x.card(0, 16), NONE);
        x.move(0, 5, 1);
        s.due("one is turned", x.told(7), 14);
        s.due("the last one now", x.card(0, 14), 9);
        s.due("behind it now", x.card(0, 15), NONE);
        x.undo(1);
        s.due("full again", x.card(0, 15), 6);
        s.due("15 lie hidden again", x.told(7), 15);
        s.due("turned back", x.card(0, 14), UNKNOWN);
        // the sixteenth card comes to a column by a move
        Patiencery y = Sheet.ruled(4, 4, 1, 1, BY_RANK, ANY);
        int number = 0;
        y.deal(0, number);
        while (!fitsLast(y)) {
            y.deal(0, ++number);
        }
        String before = Sheet.shown(y);
        y.move(0, 5, 1);
        s.due("15 cards", y.card(0, 15), NONE);
        y.move(5, 0, 1);
        s.due("16 cards again", Sheet.shown(y), before);
    }

    private static boolean fitsLast(Patiencery x) {
        return x.card(0, 15) % 4 == x.card(0, 14) % 4 - 1;
    }

    // ---- what fits

    /** The last cards of two columns, for all pairs of a deck: by suit, by colour, by rank. */
    private void fits() {
        s.promise = "a card fits on another one";
        int suits = 3;
        int ranks = 3;
        for (int build = BY_SUIT; build <= BY_RANK; build++) {
            boolean[] seen = new boolean[81];
            int left = 72;
            for (int number = 0; number < 5000 && left > 0; number++) {
                Patiencery x = Sheet.ruled(suits, ranks, 2, 0, build, NO_CARD);
                x.deal(0, number);
                int card = x.card(1, 3);
                int on = x.card(0, 4);
                if (!seen[9 * card + on]) {
                    seen[9 * card + on] = true;
                    left--;
                    boolean alike = card / ranks % 2 == on / ranks % 2;
                    boolean may = build == BY_SUIT ? card / ranks == on / ranks : build == BY_RANK || !alike;
                    boolean due = may && card % ranks + 1 == on % ranks;
                    s.due("build " + build + ": " + card + " on " + on, Sheet.listed(x).contains("1001") ? 1 : 0, due ? 1 : 0);
                }
            }
            s.due("all pairs, build " + build, left, 0);
        }
    }

    /** 1 is of the greatest rank: it fits on no card, not on the next one by number, the first of the next suit. */
    private void fitsAtTheEndsOfSuits() {
        s.promise = "a card fits on another one, ends of suits";
        for (int build = BY_SUIT; build <= BY_RANK; build++) {
            Patiencery x = Sheet.ruled(2, 2, 4, 0, build, NO_CARD);
            Sheet.dealing(x, 1, 2, 0, 3);
            shown("dealt", x, "[1][2][0][3][]c[]c[]w[]f[. . . .]s[]");
            s.due("build " + build, Sheet.listed(x), (new String[] {"[1301, 1801, 2001, 2801]",
                "[1001, 1801, 2301, 2801]", "[1001, 1301, 1801, 2001, 2301, 2801]"})[build]);
        }
    }

    // ---- cells

    private void cells() {
        s.promise = "cells, empty and full";
        Patiencery x = Sheet.ruled(1, 4, 1, 2, BY_SUIT, ANY, 1, 0);
        Sheet.dealing(x, 0, 3, 1, 2);
        shown("dealt", x, "[0 3 1][][][][]c[]c[]w[]f[. . . .]s[2]");
        for (int cell = 5; cell <= 6; cell++) {
            s.due("an empty cell", x.card(cell, 0), NONE);
            noMove("from an empty cell to a column", x, cell, 0, 1);
            noMove("up from an empty cell", x, cell, 8, 1);
            noMove("from an empty cell to the other one", x, cell, 11 - cell, 1);
        }
        x.move(0, 6, 1);
        s.due("a full cell", x.card(6, 0), 1);
        s.due("depth 1 of a full cell", x.card(6, 1), NONE);
        noMove("to a full cell", x, 0, 6, 1);
        noMove("from a cell to another one", x, 6, 5, 1);
        noMove("from a cell to the waste", x, 6, 7, 1);
        x.move(9, 7, 1);
        noMove("from the waste to a full cell", x, 7, 6, 1);
        x.move(7, 5, 1);
        shown("both are full", x, "[0 3][][][][]c[2]c[1]w[]f[. . . .]s[]");
        s.due("2 fits on 3, and no cell is empty", Sheet.listed(x), "[5001]");
        x.undo(1);
        x.move(0, 5, 1);
        s.due("to no cell from column and waste", Sheet.listed(x), "[801]");
        noMove("waste to the full cell 5", x, 7, 5, 1);
        noMove("waste to the full cell 6", x, 7, 6, 1);
        noMove("column to the full cell 5", x, 0, 5, 1);
        noMove("column to the full cell 6", x, 0, 6, 1);
        x.move(0, 8, 1);
        s.due("the cell's card up, or into the empty column", Sheet.listed(x), "[5001, 6001, 6801, 7001]");
        x.move(6, 8, 1);
        s.due("empty once more", x.card(6, 0), NONE);
        s.due("to it then", Sheet.listed(x), "[5001, 7001, 7601, 7801]");
    }

    // ---- waste and stock

    private void wasteAndStock() {
        s.promise = "waste and stock, empty and full";
        Patiencery x = Sheet.ruled(3, 3, 1, 0, BY_SUIT, NO_CARD, 8, 1);
        x.deal(0, 12);
        int[] order = drawn(0, 12, 9);
        s.due("one is in the column", x.card(0, 0), order[0]);
        noMove("an empty waste to a column", x, 7, 0, 1);
        noMove("an empty waste to a cell", x, 7, 5, 1);
        noMove("an empty waste up", x, 7, 8, 1);
        s.due("top of an empty waste", x.card(7, 0), NONE);
        for (int turned = 0; turned <= 8; turned++) {
            for (int depth = 0; depth <= 8; depth++) {
                s.due("waste of " + turned + ", depth " + depth, x.card(7, depth), depth < turned ? order[9 - turned + depth] : NONE);
                s.due("stock of " + (8 - turned) + ", depth " + depth, x.card(9, depth),
                    depth < 8 - turned ? order[8 - turned - depth] : NONE);
            }
            if (turned < 8) {
                x.move(9, 7, 1);
            }
        }
        s.due("not turned over by that", x.told(3), 0);
        x.move(9, 7, 1);
        s.due("turned over", x.told(3), 1);
        s.due("the waste is empty", x.card(7, 0), NONE);
        for (int depth = 0; depth <= 8; depth++) {
            s.due("stock as at first, depth " + depth, x.card(9, depth), depth < 8 ? order[8 - depth] : NONE);
        }
        noMove("from the stock to a column", x, 9, 0, 1);
        noMove("from the stock up", x, 9, 8, 1);
        noMove("from the stock to a cell", x, 9, 5, 1);
        Patiencery y = Sheet.ruled(1, 2, 1, 0, BY_SUIT, ANY, 0, 2);
        Sheet.dealing(y, 0, 1);
        s.due("no stock at all", y.card(9, 0), NONE);
        noMove("no stock and no waste", y, 9, 7, 1);
        s.due("no move then", y.moves(), 0);
    }

    /** Empty stock and empty waste: nothing to turn over, though it might be. */
    private void wasteGone() {
        s.promise = "stock and waste are both empty at the end";
        Patiencery x = Sheet.ruled(1, 3, 1, 0, BY_SUIT, ANY, 1, 2);
        Sheet.dealing(x, 0, 2, 1);
        x.move(9, 7, 1);
        s.due("it may be turned over", Sheet.listed(x), "[7001, 9701]");
        x.move(7, 0, 1);
        shown("no card is left there", x, "[0 2 1][][][][]c[]c[]w[]f[. . . .]s[]");
        noMove("nothing is turned over", x, 9, 7, 1);
        s.due("turned so far", x.told(3), 0);
        x.undo(1);
        x.move(9, 7, 1);
        s.due("turned over with one card", x.told(3), 1);
        shown("one card", x, "[0 2][][][][]c[]c[]w[]f[. . . .]s[1]");
    }

    /** 0, 1 and 2 times; with cards left in the stock the top one comes, also if it may not be turned over. */
    private void turnings() {
        s.promise = "a stock that may not be turned over again";
        for (int again = 0; again <= 2; again++) {
            Patiencery x = Sheet.ruled(1, 4, 1, 0, BY_SUIT, ANY, 3, again);
            Sheet.dealing(x, 2, 3, 0, 1);
            for (int turned = 0; turned <= again; turned++) {
                s.due("turned", x.told(3), turned);
                shown("all in the stock", x, "[2][][][][]c[]c[]w[]f[. . . .]s[1 0 3]");
                x.move(9, 7, 1);
                x.move(9, 7, 1);
                shown("the last but one", x, "[2][][][][]c[]c[]w[0 1]f[. . . .]s[3]");
                s.due("there is a move from the stock", Sheet.listed(x), "[7801, 9701]");
                x.move(9, 7, 1);
                shown("the stock is empty", x, "[2][][][][]c[]c[]w[3 0 1]f[. . . .]s[]");
                if (turned < again) {
                    s.due("it may be turned over", Sheet.listed(x), "[9701]");
                    s.due("turned over", x.move(9, 7, 1), 0);
                }
            }
            noMove("not more than " + again + " times", x, 9, 7, 1);
            s.due("no move is left", x.moves(), 0);
            s.due("turned " + again + " times", x.told(3), again);
            if (again > 0) {
                // undone, it may be turned over again
                x.undo(4);
                s.due("undone", x.told(3), again - 1);
                s.due("and once more", x.move(9, 7, 1), 0);
                s.due("turned", x.told(3), again);
            }
            Sheet.dealing(x, 2, 3, 0, 1);
            s.due("the next deal begins at 0", x.told(3), 0);
        }
    }

    // ---- foundations

    private void foundations() {
        s.promise = "foundations, empty and full";
        Patiencery x = Sheet.ruled(2, 3, 5, 2, BY_SUIT, ANY);
        Sheet.dealing(x, 3, 1, 0, 5, 4, 2);
        shown("dealt", x, "[3 2][1][0][5][4]c[]c[]w[]f[. . . .]s[]");
        s.due("cards there", x.told(0), 0);
        noMove("the second of an empty foundation", x, 1, 8, 1);
        noMove("the highest of an empty foundation", x, 0, 8, 1);
        s.due("the first", x.move(2, 8, 1), 1);
        shown("0 is up", x, "[3 2][1][][5][4]c[]c[]w[]f[0 . . .]s[]");
        noMove("not the third on the first", x, 0, 8, 1);
        noMove("not the second of the other suit", x, 4, 8, 1);
        s.due("the second", x.move(1, 8, 1), 2);
        s.due("the third", x.move(0, 8, 1), 3);
        shown("a full suit", x, "[3][][][5][4]c[]c[]w[]f[2 . . .]s[]");
        noMove("the second of the other suit, its first not being there", x, 4, 8, 1);
        s.due("the first of the other suit", x.move(0, 8, 1), 4);
        s.due("its second", x.move(4, 8, 1), 5);
        s.due("not won with one left", x.told(6), 0);
        s.due("its third, and all", x.move(3, 8, 1), 6);
        shown("full", x, "[][][][][]c[]c[]w[]f[2 5 . .]s[]");
        s.due("won", x.told(6), 1);
        for (int suit = 0; suit <= 5; suit++) {
            s.due("card(8, " + suit + ")", x.card(8, suit), suit == 0 ? 2 : suit == 1 ? 5 : NONE);
        }
        for (int to = 0; to <= 7; to++) {
            int there = to;
            s.refused("none comes back from the foundations", x, () -> x.move(8, there, 1));
        }
        Patiencery y = Sheet.ruled(4, 4, 4, 2, BY_SUIT, ANY);
        y.deal(0, 617);
        for (int suit = 0; suit <= 4; suit++) {
            s.due("empty foundations of 4 suits, " + suit, y.card(8, suit), NONE);
        }
        Patiencery z = Sheet.ruled(4, 1, 4, 0, BY_SUIT, ANY);
        z.deal(0, 0);
        z.safe();
        for (int suit = 0; suit <= 4; suit++) {
            s.due("full foundations of 4 suits, " + suit, z.card(8, suit), suit < 4 ? suit : NONE);
        }
    }

    // ---- many cards

    /** [5][4][3][2 1 0] or [5 4][][3][2 1 0], by the number of cells. */
    private static Patiencery run(int cells, int empty, boolean emptied) {
        Patiencery x = Sheet.ruled(1, 6, 4, cells, BY_SUIT, empty);
        Sheet.dealing(x, 5, 4, 3, 2, 1, 0);
        // behind the deal: [5 1][4 0][3][2]
        Sheet.play(x, 301, 1301);
        if (emptied) {
            Sheet.play(x, 1001);
        }
        return x;
    }

    /** One more than there are empty cells, times 2 for each empty column: as many as that, and one more. */
    private void manyCards() {
        s.promise = "many cards at once, as many as may be and one more";
        int[][] due = {{0, 0, 1}, {0, 1, 2}, {1, 0, 2}, {1, 1, 4}, {2, 0, 3}, {2, 1, 6}};
        for (int[] d : due) {
            Patiencery x = run(d[0], NO_CARD, d[1] == 1);
            String what = d[0] + " cells, " + d[1] + " empty columns";
            shown(what, x, d[1] == 1 ? "[5 4][][3][2 1 0][]c[]c[]w[]f[. . . .]s[]" : "[5][4][3][2 1 0][]c[]c[]w[]f[. . . .]s[]");
            if (d[2] >= 3) {
                s.due(what + ": three", x.move(3, 2, 3), 0);
            } else {
                noMove(what + ": three", x, 3, 2, 3);
            }
        }
        // to the empty column itself, which does not count: 1, 2 and 3
        for (int cells = 0; cells <= 2; cells++) {
            Patiencery x = run(cells, ANY, true);
            for (int many = 1; many <= 4; many++) {
                String what = many + " to the empty column, " + cells + " cells";
                if (many <= cells + 1) {
                    s.due(what, x.move(3, 1, many), 0);
                    x.undo(1);
                } else {
                    noMove(what, x, 3, 1, many);
                }
            }
        }
        // full cells do not count
        Patiencery y = run(1, NO_CARD, false);
        y.move(0, 5, 1);
        noMove("a full cell, one empty column", y, 3, 2, 3);
        Patiencery z = run(2, NO_CARD, false);
        z.move(0, 6, 1);
        s.due("a full cell, an empty one, one empty column", z.move(3, 2, 3), 0);
    }

    /** The longest run there is: 6 cards by 2 cells and an empty column beside that to which they come. */
    private void mostCards() {
        s.promise = "the most cards at once";
        Patiencery x = Sheet.ruled(1, 6, 3, 2, BY_SUIT, HIGHEST);
        Sheet.dealing(x, 5, 4, 3, 2, 1, 0);
        shown("dealt", x, "[5 2][4 1][3 0][][]c[]c[]w[]f[. . . .]s[]");
        Sheet.play(x, 2101, 1002, 203, 1001);
        shown("a run of four", x, "[5 4][][3 2 1 0][][]c[]c[]w[]f[. . . .]s[]");
        s.due("four", x.move(2, 0, 4), 0);
        shown("a run of six", x, "[5 4 3 2 1 0][][][][]c[]c[]w[]f[. . . .]s[]");
        for (int many = 1; many <= 5; many++) {
            noMove("just the greatest rank comes into an empty column", x, 0, 1, many);
        }
        for (int many = 7; many <= 16; many++) {
            noMove("there are not " + many, x, 0, 1, many);
        }
        s.due("all six", x.move(0, 2, 6), 0);
        shown("moved", x, "[][][5 4 3 2 1 0][][]c[]c[]w[]f[. . . .]s[]");
        x.move(2, 5, 1);
        noMove("five by a cell and a column: 4 is no greatest rank", x, 2, 0, 5);
        x.table(3, 2, BY_SUIT, ANY);
        Sheet.dealing(x, 5, 4, 3, 2, 1, 0);
        Sheet.play(x, 2101, 1002, 203, 1001, 2004, 501);
        noMove("five, if 4 may be", x, 0, 1, 5);
        s.due("four, if 4 may be", x.move(0, 1, 4), 0);
    }

    // ---- hidden cards

    private void hiddenCards() {
        s.promise = "hidden cards, none and as many as can be";
        Patiencery x = Sheet.ruled(4, 4, 5, 2, BY_RANK, ANY);
        x.deal(0, 617);
        s.due("none", x.told(7), 0);
        x.stock(0, 0, true);
        x.deal(0, 617);
        s.due("all but the last ones", x.told(7), 11);
        shown("shown", x, "[? ? ? 6][? ? 4][? ? 1][? ? 14][? ? 9]c[]c[]w[]f[. . . .]s[]");
        x.stock(8, 0, true);
        x.table(1, 0, BY_RANK, ANY);
        x.deal(0, 617);
        s.due("those of the stock do not lie hidden", x.told(7), 7);
        s.due("the top of the stock", x.card(9, 0), 6);
        x.deck(3, 3);
        x.deal(0, 1);
        s.due("a column of one card", x.told(7), 0);
        x.stock(0, 0, true);
        x.table(5, 0, BY_RANK, ANY);
        x.deck(2, 2);
        x.deal(0, 1);
        s.due("columns of one card, and an empty one", x.told(7), 0);
    }

    /** A column that becomes empty turns none; one that keeps cards turns its last one, however many went. */
    private void turnedCards() {
        s.promise = "a card that comes to be the last one is turned";
        Patiencery x = Sheet.ruled(1, 4, 2, 2, BY_SUIT, ANY);
        x.stock(0, 0, true);
        Sheet.dealing(x, 0, 1, 2, 3);
        shown("dealt", x, "[? 2][? 3][][][]c[]c[]w[]f[. . . .]s[]");
        s.due("onto 3", x.move(0, 1, 1), 0);
        shown("0 is turned", x, "[0][? 3 2][][][]c[]c[]w[]f[. . . .]s[]");
        s.due("hidden", x.told(7), 1);
        x.move(0, 8, 1);
        s.due("the column is empty", x.told(7), 1);
        s.due("both cards at once", x.move(1, 0, 2), 1);
        shown("1 is turned", x, "[3 2][1][][][]c[]c[]w[]f[0 . . .]s[]");
        s.due("none lies hidden", x.told(7), 0);
        x.undo(1);
        shown("1 lies hidden again", x, "[][? 3 2][][][]c[]c[]w[]f[0 . . .]s[]");
        s.due("hidden again", x.told(7), 1);
        noMove("three, one of them hidden", x, 1, 0, 3);
        x.undo(2);
        shown("0 too", x, "[? 2][? 3][][][]c[]c[]w[]f[. . . .]s[]");
        s.due("both hidden again", x.told(7), 2);
    }

    public static void main(String[] args) {
        PlacesTest t = new PlacesTest();
        t.leastDecks();
        t.greatestDecks();
        t.deals();
        t.numbers();
        t.emptyColumns();
        t.intoEmptyColumns();
        t.fullColumn();
        t.fits();
        t.fitsAtTheEndsOfSuits();
        t.cells();
        t.wasteAndStock();
        t.wasteGone();
        t.turnings();
        t.foundations();
        t.manyCards();
        t.mostCards();
        t.hiddenCards();
        t.turnedCards();
        System.out.println("PlacesTest: " + t.s.looked + " looked at, " + t.s.wrong + " wrong");
        if (t.s.wrong != 0) {
            System.exit(1);
        }
    }
}
