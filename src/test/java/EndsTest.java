/** Moves that come to an end: 200 done, all undone, won, none left; and what is then refused. */
public final class EndsTest {
    private static final int BY_SUIT = Patiencery.BY_SUIT, BY_COLOUR = Patiencery.BY_COLOUR;
    private static final int BY_RANK = Patiencery.BY_RANK;
    private static final int ANY = Patiencery.ANY_CARD, HIGHEST = Patiencery.HIGHEST, NO_CARD = Patiencery.NO_CARD;
    private static final int NONE = Patiencery.NONE, LOST = Patiencery.LOST, UNKNOWN = Patiencery.UNKNOWN;
    private static final Class<? extends RuntimeException> STATE = IllegalStateException.class;
    private static final Class<? extends RuntimeException> ARGUMENT = IllegalArgumentException.class;

    private final Sheet s = new Sheet();

    private void told(String what, Patiencery x, String due) {
        s.due(what, Sheet.told(x), due);
    }

    /** [1][0][] with 1 gone to the empty column and back, until so many moves are done: 0 and 1 may go up. */
    private static Patiencery walked(int done) {
        Patiencery x = Sheet.ruled(1, 2, 3, 0, BY_SUIT, ANY);
        Sheet.dealing(x, 1, 0);
        walk(x, done);
        return x;
    }

    private static void walk(Patiencery x, int many) {
        for (int n = 0; n < many; n++) {
            int from = x.card(0, 0) == 1 ? 0 : 2;
            x.move(from, 2 - from, 1);
        }
    }

    // ---- 200 moves

    private void lastMove() {
        s.promise = "7 move, 200 were done";
        Patiencery x = walked(198);
        told("198", x, "0 198 0 0 -198 -198 0 0");
        s.due("the 199th", x.move(1, 8, 1), 1);
        s.due("the 200th", x.move(0, 8, 1), 2);
        told("won by the last one", x, "2 200 0 0 -190 -190 1 0");
        for (int done = 199; done <= 200; done++) {
            int many = done;
            for (int from = 0; from <= 9; from++) {
                for (int to = 0; to <= 8; to++) {
                    int a = from;
                    int b = to;
                    if (a == 8 || a == b) {
                        s.refusedAlike("move(" + a + ", " + b + ", 1) behind " + done, () -> walked(many), ARGUMENT,
                            y -> y.move(a, b, 1));
                    } else if (done == 200 || !isThere(a, b, 199)) {
                        s.refusedAlike("move(" + a + ", " + b + ", 1) behind " + done, () -> walked(many), STATE,
                            y -> y.move(a, b, 1));
                    } else {
                        s.taken("move(" + a + ", " + b + ", 1) behind " + done, walked(done), y -> y.move(a, b, 1));
                    }
                }
            }
        }
        int[][] wrong = {{-1, 1, 1}, {10, 1, 1}, {0, -1, 1}, {0, 9, 1}, {0, 1, 0}, {0, 1, 17}, {0, 8, 2}, {9, 7, 2}};
        for (int[] w : wrong) {
            s.refusedAlike("move" + java.util.Arrays.toString(w) + " behind 200", () -> walked(200), ARGUMENT,
                y -> y.move(w[0], w[1], w[2]));
        }
    }

    /** [][0][1] behind 199 moves. */
    private static boolean isThere(int from, int to, int done) {
        int one = done % 2 == 1 ? 2 : 0;
        return from == one && to == 2 - one || from == 1 && (to == one || to == 2 - one || to == 8);
    }

    private void undoneMovesDoNotCount() {
        s.promise = "7 move, 200 done, those undone not with them";
        Patiencery x = walked(200);
        s.due("undo(1)", x.undo(1), 1);
        s.due("one more then", x.move(1, 8, 1), 1);
        s.refused("and no other one", x, STATE, () -> x.move(2, 8, 1));
        s.due("undo(200)", x.undo(200), 200);
        told("all undone", x, "0 0 201 0 -402 -402 0 0");
        walk(x, 200);
        told("200 once more", x, "0 200 201 0 -602 -602 0 0");
        s.refused("201", x, STATE, () -> x.move(0, 2, 1));
        s.due("the next deal begins at 0", x.deal(0, 1), 2);
        told("of the next deal", x, "0 0 0 0 0 -602 0 0");
        s.due("a move of the next deal", x.move(0, 2, 1), 0);
    }

    /** What 200 moves leave as it was: moves are there still, and searches and hints go on from now. */
    private void othersBehindTheLastMove() {
        s.promise = "other calls behind 200 moves";
        Patiencery x = walked(200);
        s.due("moves()", Sheet.listed(x), "[201, 1001, 1201, 1801]");
        s.due("search(400)", x.search(400), 2);
        s.due("known(400)", x.known(400), 4);
        s.due("hint()", x.hint(), 1801);
        s.due("card(1, 0)", x.card(1, 0), 0);
        s.due("numberOf(0)", x.numberOf(0), walked(0).numberOf(0));
        s.due("safe()", x.safe(), 0);
        told("nothing changes", x, "0 200 0 0 -200 -200 0 0");
    }

    private void safeAtTheLastMove() {
        s.promise = "9 safe, no more than 200 moves in all";
        int[][] due = {{0, 2}, {197, 2}, {198, 2}, {199, 1}, {200, 0}};
        for (int[] d : due) {
            Patiencery x = walked(d[0]);
            s.due("safe() behind " + d[0], x.safe(), d[1]);
            s.due("moves done behind " + d[0], x.told(1), d[0] + d[1]);
            s.due("cards up behind " + d[0], x.told(0), d[1]);
            s.due("won behind " + d[0], x.told(6), d[1] == 2 ? 1 : 0);
            s.due("none is left", x.safe(), 0);
        }
        Patiencery x = walked(200);
        x.undo(1);
        s.due("with one undone", x.safe(), 1);
        s.due("undo of safe ones", x.undo(3), 3);
        told("197 left", x, "0 197 4 0 -205 -205 0 0");
        s.due("both", x.safe(), 2);
    }

    // ---- undoing

    private void undoing() {
        s.promise = "8 undo, as many, or all";
        Patiencery x = new Patiencery();
        String before = Sheet.all(x);
        for (int many : new int[] {1, 2, 199, 200}) {
            s.due("nothing done: undo(" + many + ")", x.undo(many), 0);
            s.due("all stays behind undo(" + many + ")", Sheet.all(x), before);
        }
        told("nothing counts", x, "0 0 0 0 0 0 0 0");
        for (int many : new int[] {1, 2, 3, 4, 199, 200}) {
            Patiencery y = walked(3);
            s.due("3 done: undo(" + many + ")", y.undo(many), Math.min(many, 3));
            s.due("left", y.told(1), 3 - Math.min(many, 3));
            s.due("undone", y.told(2), Math.min(many, 3));
            s.due("where 1 lies", y.card(0, 0) == 1 ? 0 : 2, many == 1 || many >= 3 ? 0 : 2);
            s.due("the rest", y.undo(200), 3 - Math.min(many, 3));
            s.due("nothing is left", y.undo(1), 0);
            s.due("all undone", y.told(2), 3);
        }
        Patiencery z = walked(200);
        s.due("200 done: undo(199)", z.undo(199), 199);
        s.due("one is left", z.told(1), 1);
        s.due("undo(200)", z.undo(200), 1);
        s.due("none is left", z.undo(200), 0);
        told("all undone", z, "0 0 200 0 -400 -400 0 0");
        s.due("as dealt", Sheet.shown(z), "[1][0][][][]c[]c[]w[]f[. . . .]s[]");
        z.move(1, 8, 1);
        z.deal(0, 0);
        s.due("not beyond the deal", z.undo(1), 0);
        s.due("it stays", Sheet.shown(z), "[0][1][][][]c[]c[]w[]f[. . . .]s[]");
    }

    private void undoneWin() {
        s.promise = "8 undo, of a won game";
        Patiencery x = walked(0);
        s.due("safe()", x.safe(), 2);
        told("won", x, "2 2 0 0 8 8 1 0");
        s.due("undo(1)", x.undo(1), 1);
        told("not won any more", x, "1 1 1 0 2 2 0 0");
        s.due("won again", x.move(0, 8, 1), 2);
        told("won with one undone", x, "2 2 1 0 6 6 1 0");
    }

    private void undoneTurning() {
        s.promise = "8 undo, of a turning";
        Patiencery x = Sheet.ruled(1, 3, 1, 1, BY_SUIT, NO_CARD, 2, 1);
        Sheet.dealing(x, 1, 2, 0);
        Sheet.play(x, 9701, 9701, 9701, 9701, 9701);
        told("turned over", x, "0 5 0 1 -5 -5 0 0");
        s.refused("not again", x, STATE, () -> x.move(9, 7, 1));
        x.undo(3);
        told("not turned over", x, "0 2 3 0 -8 -8 0 0");
        s.due("the waste is back", Sheet.shown(x), "[1][][][][]c[]c[]w[2 0]f[. . . .]s[]");
        s.due("it may be", x.moveAt(x.moves() - 1), 9701);
        x.move(9, 7, 1);
        s.due("turned over again", x.told(3), 1);
    }

    // ---- won, and none left

    private void won() {
        s.promise = "won";
        int[][] decks = {{1, 2}, {2, 1}, {4, 4}, {1, 6}};
        for (int[] d : decks) {
            Patiencery x = Sheet.ruled(d[0], d[1], 5, 2, BY_RANK, ANY);
            int cards = d[0] * d[1];
            s.due("won by hints and safe moves", playedUp(x) ? 1 : 0, 1);
            s.due("all are up", x.told(0), cards);
            s.due("won", x.told(6), 1);
            s.due("moves()", x.moves(), 0);
            s.due("moveAt(0)", x.moveAt(0), NONE);
            s.due("safe()", x.safe(), 0);
            s.due("hint()", x.hint(), NONE);
            for (int bound : new int[] {1, 2, 399, 400}) {
                s.due("search(" + bound + ")", x.search(bound), 0);
                s.due("known(" + bound + ")", x.known(bound), 1);
            }
            s.due("money", x.told(4), 5 * cards - x.told(1) - 2 * x.told(2));
            for (int place = 0; place <= 7; place++) {
                int from = place;
                s.due("nothing at " + place, x.card(place, 0), NONE);
                s.refused("up from " + place, x, STATE, () -> x.move(from, 8, 1));
            }
            s.refused("from the stock", x, STATE, () -> x.move(9, 7, 1));
            x.undo(1);
            s.due("not won with one back", x.told(6), 0);
            // by their order the card goes to a cell ahead of going up, so the won position is the third
            s.due("one step, beyond the bound", x.search(2), UNKNOWN);
            s.due("one step, at the bound", x.search(3), 1);
            s.due("three are known", x.known(400), 3);
        }
    }

    /** Deals numbers until one is won by moves up alone. */
    private static boolean playedUp(Patiencery x) {
        for (int number = 0; number < 5000; number++) {
            x.deal(0, number);
            int up = 0;
            while (up < 5) {
                up = 0;
                while (up < 5 && !canGoUp(x, up)) {
                    up++;
                }
                if (up < 5) {
                    x.move(up, 8, 1);
                }
            }
            if (x.told(6) == 1) {
                return true;
            }
        }
        return false;
    }

    private static boolean canGoUp(Patiencery x, int column) {
        for (int place = 0; place < x.moves(); place++) {
            if (x.moveAt(place) == 1000 * column + 801) {
                return true;
            }
        }
        return false;
    }

    private void noneLeft() {
        s.promise = "no move is left";
        Patiencery x = Sheet.ruled(1, 3, 1, 1, BY_SUIT, ANY);
        Sheet.dealing(x, 0, 1, 2);
        s.due("one move", Sheet.listed(x), "[501]");
        x.move(0, 5, 1);
        s.due("none then", x.moves(), 0);
        s.due("moveAt(0)", x.moveAt(0), NONE);
        s.due("safe()", x.safe(), 0);
        s.due("hint()", x.hint(), NONE);
        s.due("search(1)", x.search(1), LOST);
        s.due("known(1)", x.known(1), 1);
        s.due("search(400)", x.search(400), LOST);
        s.due("known(400)", x.known(400), 1);
        s.due("not won", x.told(6), 0);
        s.refused("no move", x, STATE, () -> x.move(0, 5, 1));
        s.refused("no move back", x, STATE, () -> x.move(5, 0, 1));
        s.due("undo is left", x.undo(2), 1);
        s.due("one move again", Sheet.listed(x), "[501]");
    }

    // ---- the order of moves, and how many there are

    private void moveOrder() {
        s.promise = "10 moves, 11 moveAt, from which, to which, how many";
        // from all kinds of places to all kinds of places
        Patiencery x = Sheet.ruled(2, 4, 4, 2, BY_RANK, ANY, 3, 0);
        Sheet.dealing(x, 3, 2, 6, 0, 1, 4, 7, 5);
        s.due("dealt", Sheet.shown(x), "[3 1][2][6][0][]c[]c[]w[]f[. . . .]s[5 7 4]");
        Sheet.play(x, 9701, 2501);
        s.due("behind both", Sheet.shown(x), "[3 1][2][][0][]c[6]c[]w[5]f[. . . .]s[7 4]");
        s.due("in order", Sheet.listed(x), "[101, 201, 601, 1201, 1601, 3001, 3201, 3601, 3801, 5201, 7101, 7201, 7601, 9701]");
        s.due("moves()", x.moves(), 14);
        s.due("the first", x.moveAt(0), 101);
        s.due("the last", x.moveAt(13), 9701);
        s.due("behind it", x.moveAt(14), NONE);
        s.due("far behind it", x.moveAt(Integer.MAX_VALUE), NONE);
        s.refused("ahead of the first", x, IndexOutOfBoundsException.class, () -> x.moveAt(-1));
        // how many comes last
        Sheet.play(x, 101, 3101);
        s.due("run of three", Sheet.shown(x), "[3][2 1 0][][][]c[6]c[]w[5]f[. . . .]s[7 4]");
        s.due("one, two, three", Sheet.listed(x), "[201, 301, 601, 1003, 1201, 1202, 1203, 1301, 1302, 1303, "
            + "1601, 1801, 5001, 5201, 5301, 7201, 7301, 7601, 9701]");
    }

    // ---- safe moves

    private void safeOrNot() {
        s.promise = "9 safe, no card would fit";
        for (int build = BY_SUIT; build <= BY_RANK; build++) {
            Patiencery x = Sheet.ruled(2, 3, 2, 0, build, NO_CARD);
            // 0 and 1 at the end of column 0; 3 below 5 and 4
            Sheet.dealing(x, 2, 3, 1, 5, 0, 4);
            s.due("dealt", Sheet.shown(x), "[2 1 0][3 5 4][][][]c[]c[]w[]f[. . . .]s[]");
            // 3 would fit on 1 BY_COLOUR and BY_RANK, but not BY_SUIT: all its suit is up below it
            s.due("safe(), build " + build, x.safe(), build == BY_SUIT ? 3 : 1);
            s.due("not safe is a move all the same", x.moves() > 0 ? 1 : 0, build == BY_SUIT ? 0 : 1);
        }
        // the card that would fit lies in the stock, then on the foundations
        Patiencery y = Sheet.ruled(2, 2, 1, 0, BY_COLOUR, NO_CARD, 2, 0);
        Sheet.dealing(y, 1, 0, 3, 2);
        s.due("0, but 2 in the stock would fit on 1", y.safe(), 1);
        y.move(9, 7, 1);
        s.due("2 from the waste, then 1 which no card needs", y.safe(), 2);
        s.due("shown", Sheet.shown(y), "[][][][][]c[]c[]w[]f[1 2 . .]s[3]");
        // the first card of all is the one that would fit
        Patiencery f = Sheet.ruled(2, 2, 2, 0, BY_RANK, NO_CARD);
        Sheet.dealing(f, 0, 3, 1, 2);
        s.due("2, but 0 would fit on 3", f.safe(), 1);
        s.due("shown", Sheet.shown(f), "[0 1][3][][][]c[]c[]w[]f[. 2 . .]s[]");
        // all of the greatest deck, one suit waiting for the other ones
        for (int build = BY_SUIT; build <= BY_RANK; build++) {
            Patiencery g = Sheet.ruled(4, 4, 5, 0, build, NO_CARD);
            g.deal(0, 1181);
            s.due("dealt", Sheet.shown(g), "[7 3 9 0][1 4 12][6 14 10][5 13 8][11 15 2]c[]c[]w[]f[. . . .]s[]");
            s.due("all at once, build " + build, g.safe(), 16);
            s.due("won", g.told(6), 1);
        }
        // nothing to play at all
        Patiencery z = Sheet.ruled(1, 2, 1, 0, BY_SUIT, ANY);
        Sheet.dealing(z, 0, 1);
        s.due("no move up", z.safe(), 0);
        told("nothing counts", z, "0 0 0 0 0 0 0 0");
        // a card that would fit lies hidden
        Patiencery h = Sheet.ruled(2, 2, 2, 0, BY_COLOUR, NO_CARD);
        h.stock(0, 0, true);
        Sheet.dealing(h, 1, 2, 0, 3);
        s.due("hidden", Sheet.shown(h), "[? 0][? 3][][][]c[]c[]w[]f[. . . .]s[]");
        s.due("0, but 2 would fit on 1", h.safe(), 1);
        s.due("1 is turned by that", h.card(0, 0), 1);
    }

    // ---- money

    private void money() {
        s.promise = "13 told, money";
        Patiencery x = walked(0);
        told("nothing", x, "0 0 0 0 0 0 0 0");
        x.move(0, 2, 1);
        told("a move", x, "0 1 0 0 -1 -1 0 0");
        x.undo(1);
        told("undone", x, "0 0 1 0 -2 -2 0 0");
        x.move(1, 8, 1);
        told("a card up", x, "1 1 1 0 2 2 0 0");
        x.undo(1);
        told("undone", x, "0 0 2 0 -4 -4 0 0");
        x.undo(5);
        told("nothing more to undo", x, "0 0 2 0 -4 -4 0 0");
        x.deal(0, 0);
        told("the next deal", x, "0 0 0 0 0 -4 0 0");
        x.deal(0, 0);
        told("a deal without moves", x, "0 0 0 0 0 -4 0 0");
        Sheet.dealing(x, 1, 0);
        x.safe();
        told("won", x, "2 2 0 0 8 4 1 0");
        Sheet.dealing(x, 1, 0);
        told("the money of all deals stays", x, "0 0 0 0 0 4 0 0");
        s.refused("a deal that is refused", x, ARGUMENT, () -> x.deal(2, 0));
        told("ends no deal", x, "0 0 0 0 0 4 0 0");
        x.deck(4, 4);
        x.table(1, 0, BY_COLOUR, HIGHEST);
        x.stock(8, 2, true);
        told("rules for the next deal change no money", x, "0 0 0 0 0 4 0 0");
        s.due("search of the deal that is there", x.search(400) == UNKNOWN ? 1 : 0, 0);
    }

    public static void main(String[] args) {
        EndsTest t = new EndsTest();
        t.lastMove();
        t.undoneMovesDoNotCount();
        t.othersBehindTheLastMove();
        t.safeAtTheLastMove();
        t.undoing();
        t.undoneWin();
        t.undoneTurning();
        t.won();
        t.noneLeft();
        t.moveOrder();
        t.safeOrNot();
        t.money();
        System.out.println("EndsTest: " + t.s.looked + " looked at, " + t.s.wrong + " wrong");
        if (t.s.wrong != 0) {
            System.exit(1);
        }
    }
}
