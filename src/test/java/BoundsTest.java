/** Searches at their bound, one below it and one above it: known, hint and odds with them. */
public final class BoundsTest {
    private static final int BY_SUIT = Patiencery.BY_SUIT, BY_COLOUR = Patiencery.BY_COLOUR;
    private static final int ANY = Patiencery.ANY_CARD, HIGHEST = Patiencery.HIGHEST, NO_CARD = Patiencery.NO_CARD;
    private static final int NONE = Patiencery.NONE, LOST = Patiencery.LOST, UNKNOWN = Patiencery.UNKNOWN;

    private final Sheet s = new Sheet();

    /** What a search tells that ends by itself when so many are known: at each bound below, there, and above. */
    private void endsAt(String what, Patiencery x, int known, int told) {
        String before = Sheet.shown(x) + Sheet.told(x) + Sheet.listed(x);
        for (int bound = Math.max(1, known - 3); bound <= Math.min(400, known + 3); bound++) {
            s.due(what + ", search(" + bound + ")", x.search(bound), bound < known ? UNKNOWN : told);
            s.due(what + ", known(" + bound + ")", x.known(bound), Math.min(bound, known));
        }
        // known() searches by itself
        for (int bound : new int[] {400, 1, 2}) {
            s.due(what + ", known(" + bound + ") first", x.known(bound), Math.min(bound, known));
            s.due(what + ", search(" + bound + ")", x.search(bound), bound < known ? UNKNOWN : told);
        }
        s.due(what + ", nothing changes", Sheet.shown(x) + Sheet.told(x) + Sheet.listed(x), before);
    }

    private void won() {
        s.promise = "14 search, a way";
        Patiencery x = Sheet.ruled(1, 2, 1, 0, BY_SUIT, ANY);
        Sheet.dealing(x, 1, 0);
        endsAt("two steps", x, 3, 2);
        x.move(0, 8, 1);
        endsAt("one step", x, 2, 1);
        x.move(0, 8, 1);
        endsAt("won already", x, 1, 0);
        x = Sheet.ruled(2, 1, 2, 0, BY_SUIT, ANY);
        Sheet.dealing(x, 1, 0);
        // [1][0]: 0 up and 1 up are two positions of the first step, the second step is won at once
        endsAt("won within a step", x, 4, 2);
        x = new Patiencery();
        endsAt("at first", x, 151, 9);
    }

    private void lost() {
        s.promise = "14 search, no way";
        Patiencery x = Sheet.ruled(1, 2, 1, 0, BY_SUIT, ANY);
        Sheet.dealing(x, 0, 1);
        endsAt("no moves", x, 1, LOST);
        // 2 goes from an empty column to others like it: there are moves, and no new position
        x = Sheet.ruled(2, 3, 5, 0, BY_COLOUR, HIGHEST);
        Sheet.dealing(x, 0, 3, 4, 5, 2, 1);
        Sheet.play(x, 1801, 2801, 3801);
        s.due("moves", Sheet.listed(x), "[4101, 4201, 4301]");
        endsAt("moves, but no new position", x, 1, LOST);
        s.due("no hint", x.hint(), NONE);
        // turned over again: a stock of one card, all that may be done is to turn it
        for (int again = 0; again <= 2; again++) {
            x = Sheet.ruled(1, 3, 1, 0, BY_SUIT, NO_CARD, 1, again);
            Sheet.dealing(x, 0, 2, 1);
            // in the stock, on the waste, on 2: each for each turning
            endsAt("turned " + again + " times", x, 3 * (again + 1), LOST);
        }
    }

    /** An object with the rules and the deal told by a row: as Sheet.ruled() has it, whether hidden, and a number. */
    private static Patiencery dealt(int[] row) {
        Patiencery x = ruled(row);
        x.deal(0, row[9]);
        return x;
    }

    private static Patiencery ruled(int[] row) {
        Patiencery x = Sheet.ruled(row[0], row[1], row[2], row[3], row[4], row[5]);
        x.stock(row[6], row[7], row[8] == 1);
        return x;
    }

    /** Searches that end by themselves with 399, 400 or 401 positions, won in so many steps or lost. */
    private void greatestBounds() {
        s.promise = "14 search, the greatest bounds";
        int[][] deals = {
            {2, 3, 4, 2, 1, 0, 0, 0, 0, 499, 399, 7}, {3, 3, 3, 0, 1, 2, 2, 2, 0, 529, 399, 11},
            {2, 5, 3, 0, 0, 2, 5, 2, 0, 196, 399, LOST}, {4, 3, 2, 1, 2, 0, 4, 0, 1, 105, 399, LOST},
            {2, 5, 3, 1, 1, 2, 3, 0, 1, 795, 400, 15}, {3, 2, 2, 1, 2, 0, 1, 2, 0, 881, 400, 7},
            {2, 5, 1, 2, 0, 0, 4, 2, 0, 800, 400, LOST}, {3, 3, 2, 1, 2, 2, 2, 1, 1, 1, 400, LOST},
            {3, 4, 1, 2, 0, 1, 3, 2, 0, 719, 400, LOST}, {4, 3, 2, 0, 2, 0, 4, 2, 0, 568, 400, LOST},
            {4, 3, 3, 1, 1, 2, 2, 1, 0, 105, 400, LOST},
            {2, 4, 2, 0, 1, 0, 5, 1, 1, 951, 401, 15}, {3, 2, 2, 2, 1, 2, 4, 0, 0, 643, 401, 10},
            {2, 4, 4, 0, 2, 2, 2, 1, 0, 972, 401, LOST}, {4, 3, 1, 1, 2, 1, 6, 0, 1, 611, 401, LOST}};
        for (int[] row : deals) {
            String what = "deal " + row[9] + ", known " + row[10];
            s.due(what + ", by the model", modelKnown(row, 402), row[10] + " " + row[11]);
            endsAt(what, dealt(row), row[10], row[11]);
        }
    }

    private static String modelKnown(int[] row, int bound) {
        Model.Rules rules = new Model.Rules();
        rules.suits = row[0];
        rules.ranks = row[1];
        rules.columns = row[2];
        rules.cells = row[3];
        rules.build = row[4];
        rules.empty = row[5];
        rules.stock = row[6];
        rules.again = row[7];
        rules.hidden = row[8] == 1;
        int[] told = Model.search(Model.laid(rules, Model.drawn(0, row[9], row[0] * row[1])), bound);
        return told[1] + " " + told[0];
    }

    // ---- hints

    /** A search from now that just ends within 100 positions, and one that just does not. */
    private void hintFromNow() {
        s.promise = "16 hint, the bound of the search from now";
        int[][] deals = {
            {1, 5, 1, 2, 1, 1, 2, 1, 0, 5, 99, 7}, {1, 5, 1, 1, 0, 1, 3, 2, 0, 1, 100, 9},
            {1, 5, 1, 1, 1, 0, 3, 1, 0, 2, 101, 9}, {1, 5, 2, 1, 1, 1, 2, 2, 0, 3, 102, 8}};
        for (int[] row : deals) {
            Patiencery x = dealt(row);
            endsAt("deal with " + row[10], x, row[10], row[11]);
            if (row[10] > 100) {
                s.due("no hint with " + row[10], x.hint(), NONE);
                continue;
            }
            int code = x.hint();
            s.due("a hint with " + row[10] + " is a move", Sheet.listed(x).contains(String.valueOf(code)) ? 1 : 0, 1);
            for (int place = 0; place < x.moves(); place++) {
                int other = x.moveAt(place);
                Sheet.play(x, other);
                int left = x.search(100);
                x.undo(1);
                if (other == code) {
                    s.due("one step less behind " + code, left, row[11] - 1);
                    break;
                }
                s.due("not one step less ahead of it, behind " + other, left == row[11] - 1 ? 1 : 0, 0);
            }
        }
        int[][] lost = {{3, 3, 1, 2, 2, 0, 1, 2, 0, 5, 99}, {4, 2, 3, 0, 2, 2, 1, 1, 1, 3, 100}, {2, 3, 3, 0, 2, 2, 2, 2, 0, 5, 101}};
        for (int[] row : lost) {
            Patiencery x = dealt(row);
            endsAt("lost deal with " + row[10], x, row[10], LOST);
            s.due("no hint in what is lost, with " + row[10], x.hint(), NONE);
        }
    }

    /** Searches from behind a move that just end within 100 positions, and one that just does not. */
    private void hintFromBehind() {
        s.promise = "16 hint, the bound of the search from behind the move";
        Patiencery x = dealt(new int[] {3, 3, 1, 2, 2, 0, 2, 1, 0, 2});
        s.due("13 steps, by these", Sheet.listed(x) + x.search(100), "[501, 601, 9701]13");
        s.due("the first of them", x.hint(), 501);
        behind(x, 501, 100, 12);
        behind(x, 601, 101, 12);
        behind(x, 9701, 97, 12);
        // behind 501 the least number of moves is not known, so 801 is the hint
        x = Sheet.ruled(2, 2, 1, 2, BY_COLOUR, HIGHEST, 2, 1);
        x.deal(0, 1);
        s.due("of these", Sheet.listed(x), "[501, 601, 801, 9701]");
        s.due("the first that is known to be shorter", x.hint(), 801);
        x.move(0, 5, 1);
        s.due("behind 501", x.search(100), UNKNOWN);
    }

    private void behind(Patiencery x, int code, int known, int told) {
        Sheet.play(x, code);
        endsAt("behind " + code, x, known, told);
        x.undo(1);
    }

    /** A hint at each step of a deal that is won by them, down to none. */
    private void hintsToTheEnd() {
        s.promise = "16 hint, to the end";
        Patiencery x = dealt(new int[] {1, 5, 1, 1, 0, 1, 3, 2, 0, 1});
        for (int left = 9; left > 0; left--) {
            s.due("steps left", x.search(100), left);
            int code = x.hint();
            s.due("a hint with " + left + " left", code == NONE ? 0 : 1, 1);
            if (code == NONE) {
                return;
            }
            Sheet.play(x, code);
        }
        s.due("won", x.told(6), 1);
        s.due("none when it is won", x.hint(), NONE);
        x.undo(1);
        s.due("one again", x.hint() == NONE ? 0 : 1, 1);
    }

    // ---- odds

    /** Each deal alone: at its bound, one below it and one above it; 200 is the greatest one. */
    private void oddsBounds() {
        s.promise = "17 odds, the bound";
        int[][] deals = {
            {1, 6, 2, 1, 0, 0, 2, 0, 0, 3, 199, 10}, {1, 5, 1, 2, 1, 0, 3, 2, 0, 1, 200, 9},
            {1, 6, 3, 1, 0, 0, 0, 0, 1, 4, 201, 7}, {3, 3, 1, 1, 2, 0, 3, 2, 0, 5, 199, LOST},
            {2, 3, 2, 0, 2, 0, 3, 2, 0, 3, 200, LOST}, {3, 3, 3, 0, 1, 0, 2, 2, 0, 3, 201, LOST},
            {1, 2, 1, 0, 0, 0, 0, 0, 0, 1, 3, 2}, {1, 2, 1, 0, 0, 0, 0, 0, 0, 0, 1, LOST}};
        for (int[] row : deals) {
            Patiencery x = ruled(row);
            int due = row[11] == LOST ? 1 : 10;
            for (int bound : new int[] {1, row[10] - 1, row[10], row[10] + 1, 199, 200}) {
                if (bound >= 1 && bound <= 200) {
                    s.due("deal " + row[9] + " that ends with " + row[10] + ", bound " + bound,
                        x.odds(0, row[9], 1, bound), bound < row[10] ? 0 : due);
                }
            }
            x.deal(0, row[9]);
            endsAt("its search", x, row[10], row[11]);
        }
    }

    /** From the least number to beyond the greatest one, 1 to 8 at once; all won, all lost, none known. */
    private void oddsMany() {
        s.promise = "17 odds, how many";
        Patiencery x = Sheet.ruled(1, 2, 1, 0, BY_SUIT, ANY);
        for (int machine = 0; machine <= 1; machine++) {
            for (int from : new int[] {0, 1, 999993, 999999, 1000000}) {
                int won = 0;
                for (int many = 1; many <= 8; many++) {
                    won += Model.drawn(machine, from + many - 1, 2).get(0) == 1 ? 1 : 0;
                    String what = "odds(" + machine + ", " + from + ", " + many + ", ";
                    s.due(what + "3)", x.odds(machine, from, many, 3), 10 * won + many - won);
                    s.due(what + "2)", x.odds(machine, from, many, 2), many - won);
                }
            }
        }
        x.table(1, 1, BY_SUIT, ANY);
        s.due("all won", x.odds(0, 0, 8, 200), 80);
        s.due("none known", x.odds(0, 0, 8, 1), 0);
        s.due("one won", x.odds(0, 0, 1, 200), 10);
        x.deck(1, 6);
        x.table(1, 0, BY_SUIT, ANY);
        s.due("eight of which the first one is not the last", lostOf(8, 8), 8);
        s.due("all lost", x.odds(0, 8, 8, 1), 8);
        s.due("all lost by the greatest bound", x.odds(0, 8, 8, 200), 8);
    }

    /** One column of six without cells: lost at once if the first of the suit is not the last one there. */
    private static int lostOf(int from, int many) {
        int lost = 0;
        for (int number = from; number < from + many; number++) {
            lost += Model.drawn(0, number, 6).get(5) == 0 ? 0 : 1;
        }
        return lost;
    }

    private void oddsChangeNothing() {
        s.promise = "17 odds, nothing changes";
        Patiencery x = dealt(new int[] {2, 3, 2, 1, 1, 0, 2, 1, 1, 9});
        Sheet.play(x, x.moveAt(0));
        Sheet.play(x, x.moveAt(0));
        x.undo(1);
        Patiencery y = dealt(new int[] {2, 3, 2, 1, 1, 0, 2, 1, 1, 9});
        Sheet.play(y, y.moveAt(0));
        Sheet.play(y, y.moveAt(0));
        y.undo(1);
        for (int many = 1; many <= 8; many++) {
            x.odds(1, 1000000 - many, many, 25 * many);
            s.due("all that can be seen", Sheet.all(x), Sheet.all(y));
        }
        // rules told since then count for odds, and not for the deal
        for (Patiencery each : new Patiencery[] {x, y}) {
            each.stock(1, 2, false);
            each.deck(1, 2);
            each.table(5, 2, BY_SUIT, NO_CARD);
        }
        s.due("two cards, by the next rules", x.odds(0, 0, 8, 200), 80);
        s.due("what goes on", Sheet.goneOn(x), Sheet.goneOn(y));
    }

    public static void main(String[] args) {
        BoundsTest t = new BoundsTest();
        t.won();
        t.lost();
        t.greatestBounds();
        t.hintFromNow();
        t.hintFromBehind();
        t.hintsToTheEnd();
        t.oddsBounds();
        t.oddsMany();
        t.oddsChangeNothing();
        System.out.println("BoundsTest: " + t.s.looked + " looked at, " + t.s.wrong + " wrong");
        if (t.s.wrong != 0) {
            System.exit(1);
        }
    }
}
