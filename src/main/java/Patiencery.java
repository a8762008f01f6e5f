import java.util.Arrays;

/**
 * Cards against oneself: rules told as data, decks of some suits and ranks, deals by numbers and two
 * old machines of chance, and numbers that give a deal, moves of one card and of many by free places,
 * cards that lie hidden, a stock that is turned over again, safe moves up, undoing, hints that keep
 * what is won, a search that shows a way, or that there is none, and counts of games that can be won.
 */
public final class Patiencery {
    /** There is none. */
    public static final int NONE = -1;
    /** Ways to build. */
    public static final int BY_SUIT = 0, BY_COLOUR = 1, BY_RANK = 2;
    /** What comes into empty columns. */
    public static final int ANY_CARD = 0, HIGHEST = 1, NO_CARD = 2;
    /** What a search tells, if it shows no way. */
    public static final int LOST = -1, UNKNOWN = -2;

    private static final int MOST_SUITS = 4, MOST_RANKS = 6, LEAST_CARDS = 2, MOST_CARDS = 16;
    private static final int MOST_COLUMNS = 5, MOST_CELLS = 2, MOST_IN_STOCK = 8, MOST_AGAIN = 2;
    private static final int MACHINES = 2, GREATEST_NUMBER = 1000000, GREATEST_NUMBER_FOUND = 500;

    private static final int FIRST_CELL = 5, WASTE = 7, FOUNDATIONS = 8, STOCK = 9, PLACES = 10;

    /** What a card lies on is another card, 0 to 15, or one of these; columns are alike here, and cells. */
    private static final int FLOOR_OF_COLUMN = 16, FLOOR_OF_CELL = 17, FLOOR_OF_WASTE = 18;
    private static final int FLOOR_OF_STOCK = 19, ON_FOUNDATIONS = 20;

    /** No position has as many: 5 columns to 4 others with up to 6 cards, and 36 moves of other kinds. */
    private static final int MOST_LISTED = 160;
    private static final int MOST_DONE = 200;
    private static final int MOST_KNOWN = 400, MOST_KNOWN_OF_ODDS = 200, KNOWN_OF_HINT = 100;
    private static final int MOST_ODDS = 8;
    private static final int THINGS_TOLD = 8;
    private static final int BUCKETS = 256;

    private final Rules nextRules = new Rules();
    private final Rules rules = new Rules();
    private final Table now = new Table();
    private final Shelf past = new Shelf(MOST_DONE);
    private final Searcher searcher = new Searcher();
    private final Drawing dealt = new Drawing();
    private final Drawing tried = new Drawing();
    private int done = 0;
    private int undone = 0;
    private int moneyOfOlderDeals = 0;

    /** The rules and the deal as told. */
    public Patiencery() {
        dealNumber(0, 0);
    }

    // ---- rules, deals

    /**
     * Tells the deck of the next deals.
     *
     * @param suits 1 to 4
     * @param ranks 1 to 6
     * @return how many cards it has
     * @throws IllegalArgumentException if an argument is out of its range, the deck has not 2 to 16
     *     cards, or not more than are stock
     */
    public int deck(int suits, int ranks) throws IllegalArgumentException {
        if (!isWithin(suits, 1, MOST_SUITS) || !isWithin(ranks, 1, MOST_RANKS)) {
            throw new IllegalArgumentException("suits are 1 to 4, ranks 1 to 6");
        }
        int cards = suits * ranks;
        if (!isWithin(cards, LEAST_CARDS, MOST_CARDS) || cards <= nextRules.inStock) {
            throw new IllegalArgumentException("a deck has 2 to 16 cards, and more than are stock");
        }
        nextRules.suits = suits;
        nextRules.ranks = ranks;
        return cards;
    }

    /**
     * Tells the table of the next deals.
     *
     * @param columns 1 to 5
     * @param cells 0 to 2
     * @param build BY_SUIT to BY_RANK
     * @param empty ANY_CARD to NO_CARD
     * @throws IllegalArgumentException if an argument is out of its range
     */
    public void table(int columns, int cells, int build, int empty) throws IllegalArgumentException {
        if (!isWithin(columns, 1, MOST_COLUMNS) || !isWithin(cells, 0, MOST_CELLS)) {
            throw new IllegalArgumentException("columns are 1 to 5, cells 0 to 2");
        }
        if (!isWithin(build, BY_SUIT, BY_RANK) || !isWithin(empty, ANY_CARD, NO_CARD)) {
            throw new IllegalArgumentException("build is BY_SUIT to BY_RANK, empty ANY_CARD to NO_CARD");
        }
        nextRules.columns = columns;
        nextRules.cells = cells;
        nextRules.build = build;
        nextRules.empty = empty;
    }

    /**
     * Tells the stock of the next deals.
     *
     * @param cards 0 to 8
     * @param again 0 to 2
     * @param isHidden whether cards of columns lie hidden at first
     * @throws IllegalArgumentException if an argument is out of its range, or the deck has not more cards
     */
    public void stock(int cards, int again, boolean isHidden) throws IllegalArgumentException {
        if (!isWithin(cards, 0, MOST_IN_STOCK) || !isWithin(again, 0, MOST_AGAIN)) {
            throw new IllegalArgumentException("cards are 0 to 8, again 0 to 2");
        }
        if (cards >= nextRules.cards()) {
            throw new IllegalArgumentException("the deck has not more cards");
        }
        nextRules.inStock = cards;
        nextRules.again = again;
        nextRules.isHidden = isHidden;
    }

    /**
     * Deals a number.
     *
     * @param machine 0 or 1
     * @param number 0 to 1000000
     * @return how many cards are in columns
     * @throws IllegalArgumentException if an argument is out of its range
     */
    public int deal(int machine, int number) throws IllegalArgumentException {
        if (!isWithin(machine, 0, MACHINES - 1) || !isWithin(number, 0, GREATEST_NUMBER)) {
            throw new IllegalArgumentException("a machine is 0 or 1, a number 0 to 1000000");
        }
        moneyOfOlderDeals += moneyOfDeal();
        rules.copyFrom(nextRules);
        dealNumber(machine, number);
        return rules.inColumns();
    }

    /**
     * Returns the lowest number, up to 500, that gives, by the rules of the deal, what was dealt last.
     *
     * @param machine 0 or 1
     * @return the number; NONE if there is none
     * @throws IllegalArgumentException if machine is out of its range
     */
    public int numberOf(int machine) throws IllegalArgumentException {
        if (!isWithin(machine, 0, MACHINES - 1)) {
            throw new IllegalArgumentException("a machine is 0 or 1");
        }
        for (int number = 0; number <= GREATEST_NUMBER_FOUND; number++) {
            tried.draw(machine, number, rules.cards());
            if (tried.isSameAs(dealt, rules.cards())) {
                return number;
            }
        }
        return NONE;
    }

    // ---- moves

    /**
     * Moves cards.
     *
     * @param from 0 to 9, not 8
     * @param to 0 to 8
     * @param many 1 to 16, if both are 0 to 4; otherwise 1
     * @return how many cards are on the foundations then
     * @throws IllegalArgumentException if an argument is out of its range, or both places are the same
     * @throws IllegalStateException if it is no move (also of a column or a cell that the deal has not),
     *     or 200 were done
     */
    public int move(int from, int to, int many) throws IllegalArgumentException, IllegalStateException {
        if (!isWithin(from, 0, STOCK) || from == FOUNDATIONS || !isWithin(to, 0, FOUNDATIONS) || from == to) {
            throw new IllegalArgumentException("from is 0 to 9, not 8, to 0 to 8, and not the same");
        }
        if (!isWithin(many, 1, isColumn(from) && isColumn(to) ? MOST_CARDS : 1)) {
            throw new IllegalArgumentException("many is 1 to 16 from column to column, otherwise 1");
        }
        if (done >= MOST_DONE || !now.isMove(from, to, many)) {
            throw new IllegalStateException("it is no move, or 200 were done");
        }
        doMove(from, to, many);
        return now.cardsUp();
    }

    /**
     * Undoes moves.
     *
     * @param many 1 to 200
     * @return how many were undone: as many, or all
     * @throws IllegalArgumentException if many is out of its range
     */
    public int undo(int many) throws IllegalArgumentException {
        if (!isWithin(many, 1, MOST_DONE)) {
            throw new IllegalArgumentException("many is 1 to 200");
        }
        int back = Math.min(many, done);
        if (back > 0) {
            done -= back;
            undone += back;
            past.fetch(done, now);
        }
        return back;
    }

    /**
     * Plays what is safe, but no more than 200 moves in all.
     *
     * @return how many moves were done
     */
    public int safe() {
        int before = done;
        int from = now.firstSafePlace();
        for (int left = MOST_DONE - before; left > 0 && from != NONE; left--) {
            doMove(from, FOUNDATIONS, 1);
            from = now.firstSafePlace();
        }
        return done - before;
    }

    /** Returns how many moves there are now. */
    public int moves() {
        now.listMoves();
        return now.listed;
    }

    /**
     * Returns a move that there is now.
     *
     * @param place 0 for the first one
     * @return 1000 times the place from which, 100 times that to which, and how many cards, together;
     *     NONE if there are not so many
     * @throws IndexOutOfBoundsException if place is below 0
     */
    public int moveAt(int place) throws IndexOutOfBoundsException {
        if (place < 0) {
            throw new IndexOutOfBoundsException("place is below 0");
        }
        now.listMoves();
        return now.listedAt(place);
    }

    // ---- the table

    /**
     * Returns a card.
     *
     * @param place 0 to 9
     * @param depth from 0: of a column from its first card on; of waste and stock from the top on; of
     *     the foundations the highest card of the suit; of a cell 0
     * @return the card; NONE if there is none, UNKNOWN if it lies hidden in a column
     * @throws IllegalArgumentException if place is out of its range, or depth below 0
     */
    public int card(int place, int depth) throws IllegalArgumentException {
        if (!isWithin(place, 0, PLACES - 1) || depth < 0) {
            throw new IllegalArgumentException("place is 0 to 9, depth not below 0");
        }
        if (place == FOUNDATIONS) {
            return now.highestUp(depth);
        }
        if (isColumn(place)) {
            return now.seenInColumn(place, depth);
        }
        return now.fromTop(place, depth);
    }

    /**
     * Tells something of the deal.
     *
     * @param what 0 cards on the foundations, 1 moves done, 2 moves undone so far, 3 how often the stock
     *     was turned over, 4 its money, 5 the money of the session, 6 whether it is won (1 or 0), 7 how
     *     many cards lie hidden
     * @return as told
     * @throws IllegalArgumentException if what is out of its range
     */
    public int told(int what) throws IllegalArgumentException {
        if (!isWithin(what, 0, THINGS_TOLD - 1)) {
            throw new IllegalArgumentException("what is 0 to 7");
        }
        switch (what) {
            case 0:
                return now.cardsUp();
            case 1:
                return done;
            case 2:
                return undone;
            case 3:
                return now.turned;
            case 4:
                return moneyOfDeal();
            case 5:
                return moneyOfOlderDeals + moneyOfDeal();
            case 6:
                return now.isWon() ? 1 : 0;
            default:
                return Integer.bitCount(now.hidden);
        }
    }

    // ---- searching

    /**
     * Searches from now on.
     *
     * @param bound 1 to 400
     * @return the least number of moves; LOST or UNKNOWN
     * @throws IllegalArgumentException if bound is out of its range
     */
    public int search(int bound) throws IllegalArgumentException {
        if (!isWithin(bound, 1, MOST_KNOWN)) {
            throw new IllegalArgumentException("bound is 1 to 400");
        }
        searcher.table.copyFrom(now);
        return searcher.run(bound);
    }

    /**
     * Returns how many positions are known when a search ends.
     *
     * @param bound 1 to 400
     * @return the positions, at most the bound
     * @throws IllegalArgumentException if bound is out of its range
     */
    public int known(int bound) throws IllegalArgumentException {
        if (!isWithin(bound, 1, MOST_KNOWN)) {
            throw new IllegalArgumentException("bound is 1 to 400");
        }
        searcher.table.copyFrom(now);
        searcher.run(bound);
        return searcher.count;
    }

    /**
     * Returns a hint.
     *
     * @return the move as moveAt() tells it; NONE without one, or when it is won
     */
    public int hint() {
        searcher.table.copyFrom(now);
        int least = searcher.run(KNOWN_OF_HINT);
        // LOST and UNKNOWN are no numbers of moves, and LOST less 1 is UNKNOWN
        if (least < 1) {
            return NONE;
        }
        now.listMoves();
        for (int place = 0; place < now.listed; place++) {
            int code = now.listedAt(place);
            searcher.table.copyFrom(now);
            searcher.table.play(code);
            if (searcher.run(KNOWN_OF_HINT) == least - 1) {
                return code;
            }
        }
        return NONE;
    }

    /**
     * Counts deals of numbers that can be won, by the rules of the next deals; nothing changes by that.
     *
     * @param machine 0 or 1
     * @param from 0 to 1000000
     * @param many 1 to 8
     * @param bound 1 to 200
     * @return 10 times those that a search shows to be won, and those that it tells LOST, together
     * @throws IllegalArgumentException if an argument is out of its range
     */
    public int odds(int machine, int from, int many, int bound) throws IllegalArgumentException {
        if (!isWithin(machine, 0, MACHINES - 1) || !isWithin(from, 0, GREATEST_NUMBER)) {
            throw new IllegalArgumentException("a machine is 0 or 1, from 0 to 1000000");
        }
        if (!isWithin(many, 1, MOST_ODDS) || !isWithin(bound, 1, MOST_KNOWN_OF_ODDS)) {
            throw new IllegalArgumentException("many is 1 to 8, bound 1 to 200");
        }
        int won = 0;
        int lost = 0;
        for (int next = 0; next < many; next++) {
            tried.draw(machine, from + next, nextRules.cards());
            searcher.table.lay(nextRules, tried);
            int least = searcher.run(bound);
            if (least >= 0) {
                won++;
            } else if (least == LOST) {
                lost++;
            }
        }
        return 10 * won + lost;
    }

    private void dealNumber(int machine, int number) {
        dealt.draw(machine, number, rules.cards());
        now.lay(rules, dealt);
        done = 0;
        undone = 0;
    }

    private void doMove(int from, int to, int many) {
        past.keep(done, now);
        now.play(codeOf(from, to, many));
        done++;
    }

    private int moneyOfDeal() {
        return 5 * now.cardsUp() - done - 2 * undone;
    }

    private static int codeOf(int from, int to, int many) {
        return 1000 * from + 100 * to + many;
    }

    private static boolean isWithin(int value, int least, int most) {
        return value >= least && value <= most;
    }

    private static boolean isColumn(int place) {
        return place >= 0 && place < MOST_COLUMNS;
    }

    private static boolean isCell(int place) {
        return place >= FIRST_CELL && place < FIRST_CELL + MOST_CELLS;
    }

    private static boolean isCard(int card) {
        return card >= 0 && card < MOST_CARDS;
    }

    private static int at(int[] row, int place) {
        return place >= 0 && place < row.length ? row[place] : NONE;
    }

    private static void put(int[] row, int place, int value) {
        if (place >= 0 && place < row.length) {
            row[place] = value;
        }
    }

    /** What is told of decks, tables and stocks; new ones are as told at first. */
    private static final class Rules {
        int suits = 2;
        int ranks = 4;
        int columns = 3;
        int cells = 1;
        int build = BY_COLOUR;
        int empty = ANY_CARD;
        int inStock = 0;
        int again = 0;
        boolean isHidden = false;

        void copyFrom(Rules other) {
            suits = other.suits;
            ranks = other.ranks;
            columns = other.columns;
            cells = other.cells;
            build = other.build;
            empty = other.empty;
            inStock = other.inStock;
            again = other.again;
            isHidden = other.isHidden;
        }

        int cards() {
            return suits * ranks;
        }

        int inColumns() {
            return cards() - inStock;
        }

        int suitOf(int card) {
            return ranks > 0 ? card / ranks : 0;
        }

        int rankOf(int card) {
            return ranks > 0 ? card % ranks + 1 : 0;
        }

        boolean isFitting(int card, int other) {
            if (rankOf(card) != rankOf(other) - 1) {
                return false;
            }
            switch (build) {
                case BY_SUIT:
                    return suitOf(card) == suitOf(other);
                case BY_COLOUR:
                    return suitOf(card) % 2 != suitOf(other) % 2;
                default:
                    return true;
            }
        }

        boolean isForEmptyColumns(int card) {
            return empty == ANY_CARD || empty == HIGHEST && rankOf(card) == ranks;
        }
    }

    /** The cards of a deck in the order in which a machine takes them for a number. */
    private static final class Drawing {
        private final int[] row = new int[MOST_CARDS];
        private final int[] taken = new int[MOST_CARDS];

        void draw(int machine, int number, int cards) {
            for (int card = 0; card < row.length; card++) {
                row[card] = card;
            }
            int x = number;
            for (int left = Math.min(cards, MOST_CARDS); left > 0; left--) {
                x = nextOf(machine, x);
                int place = x / 65536 % 32768 % left;
                put(taken, cards - left, at(row, place));
                put(row, place, at(row, left - 1));
            }
        }

        int takenAt(int place) {
            return at(taken, place);
        }

        boolean isSameAs(Drawing other, int cards) {
            for (int place = 0; place < cards; place++) {
                if (takenAt(place) != other.takenAt(place)) {
                    return false;
                }
            }
            return true;
        }

        /** An int that wraps keeps the low 31 bits right, and they are all that the modulus leaves. */
        private static int nextOf(int machine, int x) {
            int next = machine == 0 ? x * 214013 + 2531011 : x * 1103515245 + 12345;
            return next & 0x7FFFFFFF;
        }
    }

    /** A position: what each card lies on, and the last or top card of each place. */
    private static final class Table {
        private Rules rules = new Rules();
        private final int[] lies = new int[MOST_CARDS];
        private final int[] tops = new int[PLACES];
        private final int[] list = new int[MOST_LISTED];
        int listed = 0;
        int hidden = 0;
        int turned = 0;

        void copyFrom(Table other) {
            rules = other.rules;
            System.arraycopy(other.lies, 0, lies, 0, MOST_CARDS);
            System.arraycopy(other.tops, 0, tops, 0, PLACES);
            hidden = other.hidden;
            turned = other.turned;
        }

        void lay(Rules told, Drawing drawing) {
            rules = told;
            hidden = 0;
            turned = 0;
            Arrays.fill(lies, ON_FOUNDATIONS);
            Arrays.fill(tops, NONE);
            int inColumns = told.inColumns();
            for (int next = 0; next < told.cards(); next++) {
                int place = next < inColumns && told.columns > 0 ? next % told.columns : STOCK;
                int last = topOf(place);
                if (told.isHidden && place != STOCK && isCard(last)) {
                    hidden |= 1 << last;
                }
                layOn(drawing.takenAt(next), drawing.takenAt(next), place);
            }
        }

        // ---- a position in few numbers: five bits for what a card lies on, or for the card on top

        /** What the cards from the first one on lie on, behind a head that is small and not below 0. */
        long packed(int head, int first, int end) {
            long packed = head;
            for (int card = Math.max(first, 0); card < end && card < lies.length; card++) {
                packed = packed << 5 | lies[card];
            }
            return packed;
        }

        /** Lays these cards as they were packed, and returns the head. */
        int unpacked(long packed, int first, int end) {
            long rest = packed;
            for (int card = Math.min(end, lies.length) - 1; card >= first && card >= 0; card--) {
                lies[card] = (int) (rest & 31);
                rest >>= 5;
            }
            return (int) rest;
        }

        long packedTops() {
            long packed = 0;
            for (int place = 0; place < tops.length; place++) {
                packed = packed << 5 | tops[place] + 1;
            }
            return packed;
        }

        void unpackTops(long packed) {
            long rest = packed;
            for (int place = tops.length - 1; place >= 0; place--) {
                tops[place] = (int) (rest & 31) - 1;
                rest >>= 5;
            }
        }

        // ---- what lies where

        int topOf(int place) {
            return place >= 0 && place < PLACES ? tops[place] : NONE;
        }

        /** The card on which a card lies, NONE if it lies on no other. */
        int under(int card) {
            int thing = card >= 0 && card < MOST_CARDS ? lies[card] : NONE;
            return thing < MOST_CARDS ? thing : NONE;
        }

        boolean isUp(int card) {
            return at(lies, card) == ON_FOUNDATIONS;
        }

        boolean liesHidden(int card) {
            return isCard(card) && (hidden >> card & 1) == 1;
        }

        int cardsUp() {
            int up = 0;
            for (int card = 0; card < rules.cards(); card++) {
                if (isUp(card)) {
                    up++;
                }
            }
            return up;
        }

        boolean isWon() {
            return cardsUp() == rules.cards();
        }

        int highestUp(int suit) {
            if (suit >= rules.suits) {
                return NONE;
            }
            for (int rank = rules.ranks; rank > 0; rank--) {
                int card = suit * rules.ranks + rank - 1;
                if (isUp(card)) {
                    return card;
                }
            }
            return NONE;
        }

        int fromTop(int place, int depth) {
            int card = topOf(place);
            int deep = Math.min(depth, MOST_CARDS);
            for (int gone = 0; gone < deep && card != NONE; gone++) {
                card = under(card);
            }
            return card;
        }

        int heightOf(int place) {
            int height = 0;
            int card = topOf(place);
            while (card != NONE && height < MOST_CARDS) {
                height++;
                card = under(card);
            }
            return height;
        }

        int seenInColumn(int column, int depth) {
            int height = heightOf(column);
            if (depth >= height) {
                return NONE;
            }
            int card = fromTop(column, height - 1 - depth);
            return liesHidden(card) ? UNKNOWN : card;
        }

        // ---- what is a move

        boolean isMove(int from, int to, int many) {
            if (from == STOCK) {
                return to == WASTE && isStockMove();
            }
            int last = topOf(from);
            if (last == NONE || from == to) {
                return false;
            }
            if (to == FOUNDATIONS) {
                return isNextUp(last);
            }
            if (isCell(to)) {
                return !isCell(from) && to - FIRST_CELL < rules.cells && topOf(to) == NONE;
            }
            if (!isColumn(to) || to >= rules.columns) {
                return false;
            }
            if (many > 1 && (many > runOf(from) || many > mostTo(to))) {
                return false;
            }
            return isForColumn(fromTop(from, many - 1), to);
        }

        private boolean isStockMove() {
            return topOf(STOCK) != NONE || topOf(WASTE) != NONE && turned < rules.again;
        }

        /** The card of the rank below, in the suit, has the number below. */
        private boolean isNextUp(int card) {
            return rules.rankOf(card) == 1 || isUp(card - 1);
        }

        private boolean isForColumn(int card, int column) {
            int last = topOf(column);
            return last == NONE ? rules.isForEmptyColumns(card) : rules.isFitting(card, last);
        }

        /** How many of the last cards, none hidden, lie so that each fits on the one ahead of it. */
        private int runOf(int column) {
            int card = topOf(column);
            int run = card == NONE ? 0 : 1;
            int ahead = under(card);
            while (ahead != NONE && run < MOST_CARDS && !liesHidden(ahead) && rules.isFitting(card, ahead)) {
                run++;
                card = ahead;
                ahead = under(card);
            }
            return run;
        }

        /** How many cards may come to a column at once, by free places. */
        private int mostTo(int column) {
            int most = 1;
            for (int cell = FIRST_CELL; cell < FIRST_CELL + rules.cells; cell++) {
                most += topOf(cell) == NONE ? 1 : 0;
            }
            for (int other = 0; other < rules.columns; other++) {
                most *= other != column && topOf(other) == NONE ? 2 : 1;
            }
            return most;
        }

        void listMoves() {
            listed = 0;
            for (int from = 0; from < PLACES; from++) {
                if (topOf(from) == NONE && from != STOCK) {
                    continue;
                }
                int run = isColumn(from) ? runOf(from) : 1;
                for (int to = 0; to <= FOUNDATIONS; to++) {
                    int most = isColumn(to) ? run : 1;
                    for (int many = 1; many <= most; many++) {
                        if (listed < MOST_LISTED && isMove(from, to, many)) {
                            put(list, listed, codeOf(from, to, many));
                            listed++;
                        }
                    }
                }
            }
        }

        int listedAt(int place) {
            return place < listed ? at(list, place) : NONE;
        }

        /** The place of the first safe move to the foundations, NONE without one. */
        int firstSafePlace() {
            for (int from = 0; from <= WASTE; from++) {
                if (isMove(from, FOUNDATIONS, 1) && isSafeUp(topOf(from))) {
                    return from;
                }
            }
            return NONE;
        }

        private boolean isSafeUp(int card) {
            for (int other = 0; other < rules.cards(); other++) {
                if (!isUp(other) && rules.isFitting(other, card)) {
                    return false;
                }
            }
            return true;
        }

        // ---- what a move does

        void play(int code) {
            int from = code / 1000;
            if (from != STOCK) {
                carry(from, code / 100 % 10, code % 100);
            } else if (topOf(STOCK) != NONE) {
                carry(STOCK, WASTE, 1);
            } else {
                turnOver();
            }
        }

        private void turnOver() {
            for (int gone = 0; gone < MOST_CARDS && topOf(WASTE) != NONE; gone++) {
                carry(WASTE, STOCK, 1);
            }
            turned++;
        }

        private void carry(int from, int to, int many) {
            int first = fromTop(from, many - 1);
            int last = topOf(from);
            int left = under(first);
            put(tops, from, left);
            if (isCard(left)) {
                hidden &= ~(1 << left);
            }
            layOn(first, last, to);
        }

        private void layOn(int first, int last, int place) {
            int top = topOf(place);
            put(lies, first, top == NONE ? floorOf(place) : top);
            // cards on the foundations are told by what they lie on alone
            if (place != FOUNDATIONS) {
                put(tops, place, last);
            }
        }

        private static int floorOf(int place) {
            switch (place) {
                case WASTE:
                    return FLOOR_OF_WASTE;
                case FOUNDATIONS:
                    return ON_FOUNDATIONS;
                case STOCK:
                    return FLOOR_OF_STOCK;
                default:
                    return place < FIRST_CELL ? FLOOR_OF_COLUMN : FLOOR_OF_CELL;
            }
        }
    }

    /**
     * Rows of positions. The first two numbers of a row do not tell which column or cell is which, so
     * they are equal just for positions that are the same; the third one tells that.
     */
    private static final class Shelf {
        private final long[] lows;
        private final long[] highs;
        private final long[] places;

        Shelf(int rows) {
            int length = Math.max(rows, 0);
            lows = new long[length];
            highs = new long[length];
            places = new long[length];
        }

        void keep(int row, Table table) {
            if (!isRow(row)) {
                return;
            }
            lows[row] = table.packed(table.hidden, 0, MOST_CARDS / 2);
            highs[row] = table.packed(table.turned, MOST_CARDS / 2, MOST_CARDS);
            places[row] = table.packedTops();
        }

        void fetch(int row, Table table) {
            if (!isRow(row)) {
                return;
            }
            table.hidden = table.unpacked(lows[row], 0, MOST_CARDS / 2);
            table.turned = table.unpacked(highs[row], MOST_CARDS / 2, MOST_CARDS);
            table.unpackTops(places[row]);
        }

        boolean areSame(int row, int other) {
            return isRow(row) && isRow(other) && lows[row] == lows[other] && highs[row] == highs[other];
        }

        /** Equal for positions that are the same, and spread well over the buckets for others. */
        int bucketOf(int row) {
            if (!isRow(row)) {
                return 0;
            }
            long mixed = (lows[row] * 31 + highs[row]) * 0x9E3779B97F4A7C15L;
            return (int) (mixed >>> 40) & BUCKETS - 1;
        }

        private boolean isRow(int row) {
            return row >= 0 && row < lows.length && row < highs.length && row < places.length;
        }
    }

    /** Searches from the position on its table; the row behind the known ones is for one that may be new. */
    private static final class Searcher {
        final Table table = new Table();
        int count = 0;
        private final Table origin = new Table();
        private final Shelf shelf = new Shelf(MOST_KNOWN + 1);
        private final int[] steps = new int[MOST_KNOWN + 1];
        private final int[] newest = new int[BUCKETS];
        private final int[] older = new int[MOST_KNOWN + 1];

        int run(int bound) {
            Arrays.fill(newest, NONE);
            count = 0;
            origin.copyFrom(table);
            shelf.keep(0, table);
            makeKnown(0);
            if (table.isWon()) {
                return 0;
            }
            for (int row = 0; row < count && row < bound; row++) {
                int step = at(steps, row) + 1;
                shelf.fetch(row, origin);
                origin.listMoves();
                for (int next = 0; next < origin.listed; next++) {
                    table.copyFrom(origin);
                    table.play(origin.listedAt(next));
                    shelf.keep(count, table);
                    if (isKnownAlready()) {
                        continue;
                    }
                    if (count >= bound) {
                        return UNKNOWN;
                    }
                    makeKnown(step);
                    if (table.isWon()) {
                        return step;
                    }
                }
            }
            return LOST;
        }

        private boolean isKnownAlready() {
            int row = at(newest, shelf.bucketOf(count));
            for (int looked = 0; looked < MOST_KNOWN && row != NONE; looked++) {
                if (shelf.areSame(row, count)) {
                    return true;
                }
                row = at(older, row);
            }
            return false;
        }

        private void makeKnown(int step) {
            int bucket = shelf.bucketOf(count);
            put(steps, count, step);
            put(older, count, at(newest, bucket));
            put(newest, bucket, count);
            count++;
        }
    }
}
