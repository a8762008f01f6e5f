import java.util.ArrayDeque;
import java.util.ArrayList;
import java.util.Collections;
import java.util.HashMap;
import java.util.List;
import java.util.Map;

/** The document once more, as plainly as it can be said: lists, copies and texts, no regard to room or speed. */
final class Model {
    static final int NONE = -1, LOST = -1, UNKNOWN = -2;

    static final class Rules {
        int suits = 2, ranks = 4, columns = 3, cells = 1, build = 1, empty = 0, stock = 0, again = 0;
        boolean hidden = false;

        Rules copy() {
            Rules r = new Rules();
            r.suits = suits;
            r.ranks = ranks;
            r.columns = columns;
            r.cells = cells;
            r.build = build;
            r.empty = empty;
            r.stock = stock;
            r.again = again;
            r.hidden = hidden;
            return r;
        }

        int cards() {
            return suits * ranks;
        }

        int suit(int card) {
            return card / ranks;
        }

        int rank(int card) {
            return card % ranks + 1;
        }

        boolean fits(int card, int on) {
            boolean sameSuit = suit(card) == suit(on);
            boolean sameColour = (suit(card) + suit(on)) % 2 == 0;
            return rank(on) - rank(card) == 1 && (build == 2 || build == 0 && sameSuit || build == 1 && !sameColour);
        }
    }

    static final class Position {
        final Rules r;
        final List<List<Integer>> columns = new ArrayList<>();
        final List<Integer> hidden = new ArrayList<>();
        final List<Integer> cells = new ArrayList<>();
        final List<Integer> waste = new ArrayList<>();
        final List<Integer> stock = new ArrayList<>();
        final List<Integer> highest = new ArrayList<>();
        int turned = 0;

        Position(Rules rules) {
            r = rules;
        }

        Position copy() {
            Position p = new Position(r);
            for (List<Integer> c : columns) {
                p.columns.add(new ArrayList<>(c));
            }
            p.hidden.addAll(hidden);
            p.cells.addAll(cells);
            p.waste.addAll(waste);
            p.stock.addAll(stock);
            p.highest.addAll(highest);
            p.turned = turned;
            return p;
        }

        String key() {
            List<String> cols = new ArrayList<>();
            for (int i = 0; i < columns.size(); i++) {
                cols.add(hidden.get(i) + ":" + columns.get(i));
            }
            Collections.sort(cols);
            List<Integer> sorted = new ArrayList<>(cells);
            Collections.sort(sorted);
            return cols + " " + sorted + " " + waste + " " + stock + " " + turned + " " + highest;
        }

        int up() {
            int n = 0;
            for (int h : highest) {
                n += h;
            }
            return n;
        }

        boolean won() {
            return up() == r.cards();
        }

        int hiddenCards() {
            int n = 0;
            for (int h : hidden) {
                n += h;
            }
            return n;
        }

        /** The position behind a move, null if it is no move. */
        Position after(int from, int to, int many) {
            if (from == 9) {
                return to == 7 && many == 1 ? afterStock() : null;
            }
            boolean none = from < 5 ? from >= columns.size() || columns.get(from).isEmpty()
                : from < 7 ? from - 5 >= cells.size() || cells.get(from - 5) == NONE : waste.isEmpty();
            if (none || from == to) {
                return null;
            }
            Position p = copy();
            List<Integer> taken = p.take(from, many);
            if (taken == null) {
                return null;
            }
            int card = taken.get(0);
            if (to == 8) {
                if (many != 1 || r.rank(card) != highest.get(r.suit(card)) + 1) {
                    return null;
                }
                p.highest.set(r.suit(card), r.rank(card));
                return p;
            }
            if (to == 5 || to == 6) {
                if (many != 1 || from == 5 || from == 6 || to - 5 >= cells.size() || cells.get(to - 5) != NONE) {
                    return null;
                }
                p.cells.set(to - 5, card);
                return p;
            }
            if (to > 4 || to >= columns.size()) {
                return null;
            }
            if (from < 5 && many > most(to)) {
                return null;
            }
            List<Integer> column = columns.get(to);
            if (column.isEmpty()) {
                if (r.empty == 2 || r.empty == 1 && r.rank(card) != r.ranks) {
                    return null;
                }
            } else if (!r.fits(card, column.get(column.size() - 1))) {
                return null;
            }
            p.columns.get(to).addAll(taken);
            return p;
        }

        private int most(int to) {
            int free = 0;
            for (int c : cells) {
                free += c == NONE ? 1 : 0;
            }
            int most = free + 1;
            for (int i = 0; i < columns.size(); i++) {
                if (i != to && columns.get(i).isEmpty()) {
                    most *= 2;
                }
            }
            return most;
        }

        /** Takes the cards away, null if they may not be taken. */
        private List<Integer> take(int from, int many) {
            List<Integer> taken = new ArrayList<>();
            if (from < 5) {
                if (from >= columns.size() || columns.get(from).size() - hidden.get(from) < many) {
                    return null;
                }
                List<Integer> column = columns.get(from);
                for (int i = 0; i < many; i++) {
                    taken.add(0, column.remove(column.size() - 1));
                }
                for (int i = 1; i < many; i++) {
                    if (!r.fits(taken.get(i), taken.get(i - 1))) {
                        return null;
                    }
                }
                if (hidden.get(from) == column.size() && !column.isEmpty()) {
                    hidden.set(from, column.size() - 1);
                }
                return taken;
            }
            if (many != 1) {
                return null;
            }
            if (from < 7) {
                if (from - 5 >= cells.size() || cells.get(from - 5) == NONE) {
                    return null;
                }
                taken.add(cells.get(from - 5));
                cells.set(from - 5, NONE);
                return taken;
            }
            if (waste.isEmpty()) {
                return null;
            }
            taken.add(waste.remove(waste.size() - 1));
            return taken;
        }

        private Position afterStock() {
            Position p = copy();
            if (!stock.isEmpty()) {
                p.waste.add(p.stock.remove(p.stock.size() - 1));
                return p;
            }
            if (waste.isEmpty() || turned >= r.again) {
                return null;
            }
            p.stock.addAll(waste);
            Collections.reverse(p.stock);
            p.waste.clear();
            p.turned++;
            return p;
        }

        List<Integer> moves() {
            List<Integer> codes = new ArrayList<>();
            for (int from = 0; from < 10; from++) {
                for (int to = 0; to < 9; to++) {
                    int most = from < 5 && to < 5 ? from < columns.size() ? columns.get(from).size() : 0 : 1;
                    for (int many = 1; many <= most; many++) {
                        if (from != 8 && after(from, to, many) != null) {
                            codes.add(1000 * from + 100 * to + many);
                        }
                    }
                }
            }
            return codes;
        }

        Position behind(int code) {
            return after(code / 1000, code / 100 % 10, code % 100);
        }

        int firstSafe() {
            for (int from = 0; from < 8; from++) {
                Position p = after(from, 8, 1);
                if (p == null) {
                    continue;
                }
                int card = NONE;
                for (int s = 0; s < r.suits; s++) {
                    if (!p.highest.get(s).equals(highest.get(s))) {
                        card = s * r.ranks + p.highest.get(s) - 1;
                    }
                }
                boolean safe = true;
                for (int other = 0; other < r.cards(); other++) {
                    if (r.rank(other) > highest.get(r.suit(other)) && r.fits(other, card)) {
                        safe = false;
                    }
                }
                if (safe) {
                    return from;
                }
            }
            return NONE;
        }
    }

    /** What a search tells, and how many positions were known then. */
    static int[] search(Position start, int bound) {
        if (start.won()) {
            return new int[] {0, 1};
        }
        Map<String, Integer> known = new HashMap<>();
        known.put(start.key(), 0);
        List<Position> step = new ArrayList<>();
        step.add(start);
        for (int n = 1; !step.isEmpty(); n++) {
            List<Position> next = new ArrayList<>();
            for (Position p : step) {
                for (int code : p.moves()) {
                    Position q = p.behind(code);
                    if (known.containsKey(q.key())) {
                        continue;
                    }
                    if (known.size() == bound) {
                        return new int[] {UNKNOWN, bound};
                    }
                    known.put(q.key(), n);
                    next.add(q);
                    if (q.won()) {
                        return new int[] {n, known.size()};
                    }
                }
            }
            step = next;
        }
        return new int[] {LOST, known.size()};
    }

    static List<Integer> drawn(int machine, int number, int cards) {
        List<Integer> row = new ArrayList<>();
        for (int i = 0; i < cards; i++) {
            row.add(i);
        }
        List<Integer> taken = new ArrayList<>();
        long x = number;
        while (!row.isEmpty()) {
            x = machine == 0 ? x * 214013L + 2531011L : x * 1103515245L + 12345L;
            x %= 1L << 31;
            int place = (int) (x / 65536 % 32768 % row.size());
            taken.add(row.get(place));
            int last = row.remove(row.size() - 1);
            if (place < row.size()) {
                row.set(place, last);
            }
        }
        return taken;
    }

    static Position laid(Rules rules, List<Integer> taken) {
        Position p = new Position(rules.copy());
        for (int i = 0; i < rules.columns; i++) {
            p.columns.add(new ArrayList<>());
            p.hidden.add(0);
        }
        for (int i = 0; i < rules.cells; i++) {
            p.cells.add(NONE);
        }
        for (int i = 0; i < rules.suits; i++) {
            p.highest.add(0);
        }
        int inColumns = rules.cards() - rules.stock;
        for (int i = 0; i < inColumns; i++) {
            p.columns.get(i % rules.columns).add(taken.get(i));
        }
        p.stock.addAll(taken.subList(inColumns, taken.size()));
        for (int i = 0; i < rules.columns && rules.hidden; i++) {
            p.hidden.set(i, Math.max(0, p.columns.get(i).size() - 1));
        }
        return p;
    }

    private final Rules next = new Rules();
    private Position now;
    private List<Integer> dealt;
    private final ArrayDeque<Position> past = new ArrayDeque<>();
    private int undone = 0;
    private int older = 0;

    Model() {
        start(0, 0);
    }

    private void start(int machine, int number) {
        dealt = drawn(machine, number, next.cards());
        now = laid(next, dealt);
        past.clear();
        undone = 0;
    }

    private static void refuseUnless(boolean right) {
        if (!right) {
            throw new IllegalArgumentException();
        }
    }

    private static boolean in(int x, int least, int most) {
        return least <= x && x <= most;
    }

    int deck(int suits, int ranks) {
        refuseUnless(in(suits, 1, 4) && in(ranks, 1, 6) && in(suits * ranks, 2, 16) && suits * ranks > next.stock);
        next.suits = suits;
        next.ranks = ranks;
        return suits * ranks;
    }

    void table(int columns, int cells, int build, int empty) {
        refuseUnless(in(columns, 1, 5) && in(cells, 0, 2) && in(build, 0, 2) && in(empty, 0, 2));
        next.columns = columns;
        next.cells = cells;
        next.build = build;
        next.empty = empty;
    }

    void stock(int cards, int again, boolean hidden) {
        refuseUnless(in(cards, 0, 8) && in(again, 0, 2) && next.cards() > cards);
        next.stock = cards;
        next.again = again;
        next.hidden = hidden;
    }

    int deal(int machine, int number) {
        refuseUnless(in(machine, 0, 1) && in(number, 0, 1000000));
        older += money();
        start(machine, number);
        return next.cards() - next.stock;
    }

    int numberOf(int machine) {
        refuseUnless(in(machine, 0, 1));
        for (int n = 0; n <= 500; n++) {
            if (drawn(machine, n, now.r.cards()).equals(dealt)) {
                return n;
            }
        }
        return NONE;
    }

    int move(int from, int to, int many) {
        refuseUnless(in(from, 0, 9) && from != 8 && in(to, 0, 8) && from != to);
        refuseUnless(from < 5 && to < 5 ? in(many, 1, 16) : many == 1);
        Position p = past.size() == 200 ? null : now.after(from, to, many);
        if (p == null) {
            throw new IllegalStateException();
        }
        past.push(now);
        now = p;
        return now.up();
    }

    int undo(int many) {
        refuseUnless(in(many, 1, 200));
        int n = 0;
        while (n < many && !past.isEmpty()) {
            now = past.pop();
            n++;
        }
        undone += n;
        return n;
    }

    int safe() {
        int n = 0;
        while (past.size() < 200 && now.firstSafe() != NONE) {
            move(now.firstSafe(), 8, 1);
            n++;
        }
        return n;
    }

    int moves() {
        return now.moves().size();
    }

    int moveAt(int place) {
        if (place < 0) {
            throw new IndexOutOfBoundsException();
        }
        List<Integer> codes = now.moves();
        return place < codes.size() ? codes.get(place) : NONE;
    }

    int card(int place, int depth) {
        refuseUnless(in(place, 0, 9) && depth >= 0);
        if (place < 5) {
            if (place >= now.columns.size() || depth >= now.columns.get(place).size()) {
                return NONE;
            }
            return depth < now.hidden.get(place) ? UNKNOWN : now.columns.get(place).get(depth);
        }
        if (place < 7) {
            return place - 5 < now.cells.size() && depth == 0 ? now.cells.get(place - 5) : NONE;
        }
        if (place == 8) {
            boolean some = depth < now.r.suits && now.highest.get(depth) > 0;
            return some ? depth * now.r.ranks + now.highest.get(depth) - 1 : NONE;
        }
        List<Integer> pile = place == 7 ? now.waste : now.stock;
        return depth < pile.size() ? pile.get(pile.size() - 1 - depth) : NONE;
    }

    private int money() {
        return 5 * now.up() - past.size() - 2 * undone;
    }

    int told(int what) {
        refuseUnless(in(what, 0, 7));
        int[] all = {now.up(), past.size(), undone, now.turned, money(), older + money(), now.won() ? 1 : 0,
            now.hiddenCards()};
        return all[what];
    }

    int search(int bound) {
        refuseUnless(in(bound, 1, 400));
        return search(now, bound)[0];
    }

    int known(int bound) {
        refuseUnless(in(bound, 1, 400));
        return search(now, bound)[1];
    }

    int hint() {
        int least = search(now, 100)[0];
        if (least <= 0) {
            return NONE;
        }
        for (int code : now.moves()) {
            if (search(now.behind(code), 100)[0] == least - 1) {
                return code;
            }
        }
        return NONE;
    }

    int odds(int machine, int from, int many, int bound) {
        refuseUnless(in(machine, 0, 1) && in(from, 0, 1000000) && in(many, 1, 8) && in(bound, 1, 200));
        int sum = 0;
        for (int i = 0; i < many; i++) {
            int told = search(laid(next, drawn(machine, from + i, next.cards())), bound)[0];
            sum += told >= 0 ? 10 : told == LOST ? 1 : 0;
        }
        return sum;
    }

    Rules nextRules() {
        return next;
    }
}
