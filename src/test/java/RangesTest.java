/** Each argument's least and greatest value, the first one on either side, and what is refused. */
public final class RangesTest {
    private static final Class<? extends RuntimeException> ARGUMENT = IllegalArgumentException.class;
    private static final Class<? extends RuntimeException> STATE = IllegalStateException.class;
    private static final Class<? extends RuntimeException> INDEX = IndexOutOfBoundsException.class;
    private static final int LEAST = Integer.MIN_VALUE, MOST = Integer.MAX_VALUE;

    private final Sheet s = new Sheet();

    /** In the middle of a deal with all that there is, and other rules told for the next one. */
    private static Patiencery busy() {
        Patiencery x = Sheet.ruled(2, 4, 3, 1, Patiencery.BY_COLOUR, Patiencery.ANY_CARD);
        x.stock(3, 2, true);
        x.deal(1, 4);
        Sheet.play(x, 9701, 9701, 9701, 9701, 9701);
        x.undo(1);
        x.deck(3, 3);
        x.table(2, 2, Patiencery.BY_RANK, Patiencery.HIGHEST);
        x.stock(4, 1, false);
        return x;
    }

    private static Patiencery won() {
        Patiencery x = Sheet.ruled(2, 1, 1, 0, Patiencery.BY_SUIT, Patiencery.ANY_CARD);
        x.deal(0, 0);
        x.safe();
        return x;
    }

    private final Sheet.Made[] makers = {Patiencery::new, RangesTest::busy, RangesTest::won};

    private void range(String what, int least, int greatest, Sheet.OnValue call) {
        for (Sheet.Made made : makers) {
            s.range(what, made, least, greatest, call);
        }
    }

    private void refused(String what, Sheet.On call) {
        for (Sheet.Made made : makers) {
            s.refusedAlike(what, made, ARGUMENT, call);
        }
    }

    private void deckRanges() {
        s.promise = "2 deck, ranges";
        s.range("deck(value, 2)", Patiencery::new, 1, 4, (x, value) -> x.deck(value, 2));
        s.range("deck(2, value)", Patiencery::new, 1, 6, (x, value) -> x.deck(2, value));
        s.range("deck(value, 5), with 4 in stock", RangesTest::busy, 1, 3, (x, value) -> x.deck(value, 5));
        s.range("deck(value, 4), with 4 in stock", RangesTest::busy, 2, 4, (x, value) -> x.deck(value, 4));
        s.range("deck(1, value), with 4 in stock", RangesTest::busy, 5, 6, (x, value) -> x.deck(1, value));
        refused("deck(0, 7)", x -> x.deck(0, 7));
        refused("deck(7, 0)", x -> x.deck(7, 0));
        refused("deck(-2, -4)", x -> x.deck(-2, -4));
        // the product of these is 4 in 32 bits
        refused("deck(1073741825, 4)", x -> x.deck(1073741825, 4));
        refused("deck(4, 1073741825)", x -> x.deck(4, 1073741825));
    }

    /** 2 to 16 cards: all pairs from 0 on, each told as it is by the next deal. */
    private void deckCards() {
        s.promise = "2 deck, 2 to 16 cards";
        for (int suits = 0; suits <= 5; suits++) {
            for (int ranks = 0; ranks <= 17; ranks++) {
                int a = suits;
                int b = ranks;
                boolean right = a >= 1 && a <= 4 && b >= 1 && b <= 6 && a * b >= 2 && a * b <= 16;
                String what = "deck(" + a + ", " + b + ")";
                if (!right) {
                    s.refusedAlike(what, Patiencery::new, ARGUMENT, x -> x.deck(a, b));
                    continue;
                }
                Patiencery x = new Patiencery();
                s.due(what, x.deck(a, b), a * b);
                s.due("deal of " + what, x.deal(0, 1), a * b);
                s.due("suits of " + what, firstCardsOf(x, a * b), a);
            }
        }
    }

    /** How many cards go up to empty foundations, by deals in which each is once the last one of a column. */
    private static int firstCardsOf(Patiencery x, int cards) {
        x.table(5, 0, Patiencery.BY_RANK, Patiencery.NO_CARD);
        int first = 0;
        boolean[] seen = new boolean[cards];
        for (int number = 0; number < 200; number++) {
            x.deal(0, number);
            for (int column = 0; column < 5; column++) {
                int depth = 0;
                while (x.card(column, depth) != Patiencery.NONE) {
                    depth++;
                }
                int last = depth == 0 ? Patiencery.NONE : x.card(column, depth - 1);
                if (last == Patiencery.NONE || seen[last]) {
                    continue;
                }
                seen[last] = true;
                try {
                    x.move(column, 8, 1);
                    first++;
                    x.undo(1);
                } catch (IllegalStateException e) {
                    // no first card of a suit
                }
            }
        }
        return first;
    }

    /** More cards than are stock: one more is enough, as many are not. */
    private void deckAndStock() {
        s.promise = "2 deck, more than are stock";
        for (int cards = 1; cards <= 8; cards++) {
            int stock = cards;
            for (int suits = 1; suits <= 4; suits++) {
                for (int ranks = 1; ranks <= 6; ranks++) {
                    int a = suits;
                    int b = ranks;
                    if (a * b < 2 || a * b > 16 || a * b < stock - 1 || a * b > stock + 2) {
                        continue;
                    }
                    Sheet.Made made = () -> {
                        Patiencery x = new Patiencery();
                        x.deck(4, 4);
                        x.stock(stock, 1, true);
                        return x;
                    };
                    String what = "deck(" + a + ", " + b + ") with " + stock + " in stock";
                    if (a * b <= stock) {
                        s.refusedAlike(what, made, ARGUMENT, x -> x.deck(a, b));
                    } else {
                        Patiencery x = made.make();
                        s.due(what, x.deck(a, b), a * b);
                        s.due("deal of " + what, x.deal(0, 0), a * b - stock);
                    }
                }
            }
        }
    }

    private void tableRanges() {
        s.promise = "3 table, ranges";
        range("table(value, 1, 1, 1)", 1, 5, (x, value) -> x.table(value, 1, 1, 1));
        range("table(2, value, 1, 1)", 0, 2, (x, value) -> x.table(2, value, 1, 1));
        range("table(2, 1, value, 1)", 0, 2, (x, value) -> x.table(2, 1, value, 1));
        range("table(2, 1, 1, value)", 0, 2, (x, value) -> x.table(2, 1, 1, value));
        refused("table(0, 3, 3, 3)", x -> x.table(0, 3, 3, 3));
        refused("table(5, 2, 2, 3)", x -> x.table(5, 2, 2, 3));
    }

    /** As many columns as told, from the least to the greatest number, and no more. */
    private void tableColumns() {
        s.promise = "3 table, columns";
        for (int columns = 1; columns <= 5; columns++) {
            Patiencery x = Sheet.ruled(4, 4, columns, 0, Patiencery.BY_RANK, Patiencery.ANY_CARD);
            x.deal(0, 3);
            for (int place = 0; place < 5; place++) {
                int height = place < columns ? (16 + columns - 1 - place) / columns : 0;
                String what = "column " + place + " of " + columns;
                s.due("the last card of " + what, x.card(place, Math.max(0, height - 1)) == -1 ? 0 : 1, height > 0 ? 1 : 0);
                s.due("behind the last card of " + what, x.card(place, height), Patiencery.NONE);
            }
            // one card in columns: the others are empty, and there are as many as told
            Patiencery y = Sheet.ruled(1, 2, columns, 0, Patiencery.BY_SUIT, Patiencery.ANY_CARD, 1, 0);
            y.deal(0, 0);
            int from = 0;
            for (int place = 1; place < 5; place++) {
                int there = place;
                int here = from;
                if (place < columns) {
                    s.taken("a card to column " + place + " of " + columns, y, z -> z.move(here, there, 1));
                    from = place;
                } else {
                    s.refused("a card to column " + place + " of " + columns, y, STATE, () -> y.move(here, there, 1));
                    s.refused("a card from column " + place + " of " + columns, y, STATE, () -> y.move(there, here, 1));
                    s.refused("up from column " + place + " of " + columns, y, STATE, () -> y.move(there, 8, 1));
                }
            }
        }
    }

    private void tableCells() {
        s.promise = "3 table, cells";
        for (int cells = 0; cells <= 2; cells++) {
            Patiencery x = Sheet.ruled(1, 6, 2, cells, Patiencery.BY_SUIT, Patiencery.ANY_CARD);
            x.deal(0, 3);
            for (int cell = 0; cell < 2; cell++) {
                int place = 5 + cell;
                if (cell < cells) {
                    s.taken("to cell " + cell + " of " + cells, x, y -> y.move(0, place, 1));
                } else {
                    s.refused("to cell " + cell + " of " + cells, x, STATE, () -> x.move(0, place, 1));
                    s.refused("from cell " + cell + " of " + cells, x, STATE, () -> x.move(place, 0, 1));
                    s.refused("up from cell " + cell + " of " + cells, x, STATE, () -> x.move(place, 8, 1));
                    s.due("card of cell " + cell + " of " + cells, x.card(place, 0), Patiencery.NONE);
                }
            }
        }
    }

    private void stockRanges() {
        s.promise = "4 stock, ranges";
        Sheet.Made[] big = {() -> Sheet.ruled(3, 3, 2, 1, 1, 1), () -> Sheet.ruled(4, 4, 5, 2, 2, 2), RangesTest::busy};
        for (Sheet.Made made : big) {
            s.range("stock(value, 1, false)", made, 0, 8, (x, value) -> x.stock(value, 1, false));
            s.range("stock(value, 2, true)", made, 0, 8, (x, value) -> x.stock(value, 2, true));
        }
        range("stock(1, value, false)", 0, 2, (x, value) -> x.stock(1, value, false));
        range("stock(0, value, true)", 0, 2, (x, value) -> x.stock(0, value, true));
        refused("stock(9, 3, true)", x -> x.stock(9, 3, true));
        refused("stock(-1, -1, false)", x -> x.stock(-1, -1, false));
    }

    /** The deck has more cards: as many as the deck has are refused, one less is taken. */
    private void stockAndDeck() {
        s.promise = "4 stock, the deck has more";
        int[][] decks = {{1, 2}, {2, 1}, {3, 1}, {2, 2}, {1, 5}, {2, 3}, {1, 6}, {4, 2}, {3, 3}};
        for (int[] d : decks) {
            Sheet.Made made = () -> Sheet.ruled(d[0], d[1], 2, 1, 1, 1);
            int cards = d[0] * d[1];
            Patiencery x = made.make();
            int most = Math.min(cards - 1, 8);
            x.stock(most, 0, false);
            s.due("in columns of " + cards + " with " + most + " in stock", x.deal(0, 0), cards - most);
            s.due("the lowest of the stock", x.card(9, most - 1) == Patiencery.NONE ? 0 : 1, 1);
            s.due("below the lowest of the stock", x.card(9, most), Patiencery.NONE);
            s.refusedAlike("stock of " + (most + 1) + " of " + cards, made, ARGUMENT, y -> y.stock(most + 1, 0, false));
        }
        s.refusedAlike("stock of 8 of 2", () -> Sheet.ruled(1, 2, 2, 1, 1, 1), ARGUMENT, y -> y.stock(8, 0, false));
        // the deck of the next deal counts, not that of the deal
        Patiencery z = Sheet.ruled(1, 2, 1, 0, 0, 0);
        z.deal(0, 0);
        z.deck(3, 3);
        s.taken("stock(8) of 9 told, 2 dealt", z, y -> y.stock(8, 0, false));
        s.due("in columns", z.deal(0, 0), 1);
    }

    private void dealRanges() {
        s.promise = "5 deal, ranges";
        range("deal(value, 5)", 0, 1, (x, value) -> x.deal(value, 5));
        range("deal(1, value)", 0, 1000000, (x, value) -> x.deal(1, value));
        range("deal(0, value)", 0, 1000000, (x, value) -> x.deal(0, value));
        refused("deal(2, 1000001)", x -> x.deal(2, 1000001));
    }

    private void numberOfRanges() {
        s.promise = "6 numberOf, ranges";
        range("numberOf(value)", 0, 1, (x, value) -> x.numberOf(value));
    }

    /** All three arguments, from below their ranges to above them, on a deal with four moves. */
    private void moveRanges() {
        s.promise = "7 move, ranges";
        Patiencery x = new Patiencery();
        for (int from = -1; from <= 10; from++) {
            for (int to = -1; to <= 10; to++) {
                for (int many = -1; many <= 18; many++) {
                    moveOnce(x, from, to, many);
                }
            }
        }
        int[] far = {LEAST, -1, 10, MOST};
        for (int value : far) {
            s.refusedAlike("move(" + value + ", 1, 1)", Patiencery::new, ARGUMENT, y -> y.move(value, 1, 1));
            s.refusedAlike("move(0, " + value + ", 1)", Patiencery::new, ARGUMENT, y -> y.move(0, value, 1));
            s.refusedAlike("move(9, " + value + ", 1)", Patiencery::new, ARGUMENT, y -> y.move(9, value, 1));
            s.refusedAlike("move(" + value + ", " + value + ", 1)", Patiencery::new, ARGUMENT, y -> y.move(value, value, 1));
        }
        for (int many : new int[] {LEAST, 0, 17, MOST}) {
            s.refusedAlike("move(0, 1, " + many + ")", RangesTest::busy, ARGUMENT, y -> y.move(0, 1, many));
            s.refusedAlike("move(9, 7, " + many + ")", RangesTest::busy, ARGUMENT, y -> y.move(9, 7, many));
        }
    }

    private void moveOnce(Patiencery x, int from, int to, int many) {
        boolean inRange = from >= 0 && from <= 9 && from != 8 && to >= 0 && to <= 8 && from != to
            && many >= 1 && many <= (from < 5 && to < 5 ? 16 : 1);
        int code = 1000 * from + 100 * to + many;
        boolean there = inRange && (code == 501 || code == 1501 || code == 1801 || code == 2501);
        String before = Sheet.shown(x) + Sheet.told(x).charAt(0) + x.told(1);
        String got = "a move";
        try {
            x.move(from, to, many);
            x.undo(1);
        } catch (RuntimeException e) {
            got = e.getClass().getSimpleName();
        }
        String what = "move(" + from + ", " + to + ", " + many + ")";
        s.due(what, got, there ? "a move" : inRange ? "IllegalStateException" : "IllegalArgumentException");
        s.due("behind " + what, Sheet.shown(x) + Sheet.told(x).charAt(0) + x.told(1), before);
    }

    /** What the comment lists first comes first: wrong arguments also where there can be no move at all. */
    private void moveWhichFirst() {
        s.promise = "7 move, which exception comes first";
        for (Sheet.Made made : makers) {
            int[][] arguments = {{8, 8, 1}, {8, 0, 1}, {-1, 8, 1}, {10, 7, 1}, {0, 9, 1}, {9, 9, 1}, {0, -1, 1}, {3, 3, 1},
                {4, 4, 16}, {6, 6, 1}, {7, 7, 1}, {4, 3, 0}, {4, 3, 17}, {4, 6, 2}, {6, 4, 2}, {7, 4, 0}, {9, 7, 2},
                {9, 4, 16}, {5, 6, 0}, {6, 8, 2}};
            for (int[] a : arguments) {
                s.refusedAlike("move" + java.util.Arrays.toString(a), made, ARGUMENT, x -> x.move(a[0], a[1], a[2]));
            }
            int[][] states = {{4, 3, 1}, {3, 4, 16}, {4, 0, 1}, {0, 4, 1}, {4, 8, 1}, {6, 4, 1}, {4, 6, 1}, {6, 8, 1},
                {5, 6, 1}, {6, 5, 1}, {6, 7, 1}, {0, 7, 1}, {5, 7, 1}, {9, 0, 1}, {9, 4, 1}, {9, 5, 1}, {9, 6, 1}, {9, 8, 1}};
            for (int[] a : states) {
                s.refusedAlike("move" + java.util.Arrays.toString(a), made, STATE, x -> x.move(a[0], a[1], a[2]));
            }
        }
    }

    private void undoRanges() {
        s.promise = "8 undo, ranges";
        range("undo(value)", 1, 200, (x, value) -> x.undo(value));
    }

    private void moveAtRanges() {
        s.promise = "11 moveAt, ranges";
        for (Sheet.Made made : makers) {
            for (int value : new int[] {-1, -2, LEAST}) {
                s.refusedAlike("moveAt(" + value + ")", made, INDEX, x -> x.moveAt(value));
            }
            Patiencery x = made.make();
            int moves = x.moves();
            if (moves > 0) {
                s.due("moveAt(0) is one", x.moveAt(0) == Patiencery.NONE ? 0 : 1, 1);
                s.due("the last one is one", x.moveAt(moves - 1) == Patiencery.NONE ? 0 : 1, 1);
            }
            s.due("behind the last one", x.moveAt(moves), Patiencery.NONE);
            s.due("moveAt(MOST)", x.moveAt(MOST), Patiencery.NONE);
        }
    }

    private void cardRanges() {
        s.promise = "12 card, ranges";
        range("card(value, 0)", 0, 9, (x, value) -> x.card(value, 0));
        for (int place = 0; place <= 9; place++) {
            int there = place;
            refused("card(" + place + ", -1)", x -> x.card(there, -1));
            refused("card(" + place + ", LEAST)", x -> x.card(there, LEAST));
            for (Sheet.Made made : makers) {
                s.taken("card(" + place + ", 0)", made.make(), x -> x.card(there, 0));
                // there is no greatest depth: there is just no card
                s.due("card(" + place + ", 16)", made.make().card(place, 16), Patiencery.NONE);
                s.due("card(" + place + ", MOST)", made.make().card(place, MOST), Patiencery.NONE);
            }
        }
        refused("card(10, -1)", x -> x.card(10, -1));
        refused("card(-1, -1)", x -> x.card(-1, -1));
    }

    private void toldRanges() {
        s.promise = "13 told, ranges";
        range("told(value)", 0, 7, (x, value) -> x.told(value));
    }

    private void searchRanges() {
        s.promise = "14 search, ranges";
        range("search(value)", 1, 400, (x, value) -> x.search(value));
        s.promise = "15 known, ranges";
        range("known(value)", 1, 400, (x, value) -> x.known(value));
    }

    private void oddsRanges() {
        s.promise = "17 odds, ranges";
        range("odds(value, 3, 2, 9)", 0, 1, (x, value) -> x.odds(value, 3, 2, 9));
        range("odds(0, value, 2, 9)", 0, 1000000, (x, value) -> x.odds(0, value, 2, 9));
        range("odds(0, 3, value, 9)", 1, 8, (x, value) -> x.odds(0, 3, value, 9));
        range("odds(0, 3, 2, value)", 1, 200, (x, value) -> x.odds(0, 3, 2, value));
        refused("odds(2, 1000001, 9, 201)", x -> x.odds(2, 1000001, 9, 201));
        refused("odds(-1, -1, 0, 0)", x -> x.odds(-1, -1, 0, 0));
    }

    public static void main(String[] args) {
        RangesTest t = new RangesTest();
        t.deckRanges();
        t.deckCards();
        t.deckAndStock();
        t.tableRanges();
        t.tableColumns();
        t.tableCells();
        t.stockRanges();
        t.stockAndDeck();
        t.dealRanges();
        t.numberOfRanges();
        t.moveRanges();
        t.moveWhichFirst();
        t.undoRanges();
        t.moveAtRanges();
        t.cardRanges();
        t.toldRanges();
        t.searchRanges();
        t.oddsRanges();
        System.out.println("RangesTest: " + t.s.looked + " looked at, " + t.s.wrong + " wrong");
        if (t.s.wrong != 0) {
            System.exit(1);
        }
    }
}
