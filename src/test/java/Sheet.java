import java.util.ArrayList;
import java.util.List;

/** Notes what answers are not as due, shows tables as texts, and deals a wanted order of cards. */
final class Sheet {
    int wrong = 0;
    int looked = 0;
    String promise = "";

    interface Call {
        void make();
    }

    interface Made {
        Patiencery make();
    }

    interface On {
        void call(Patiencery x);
    }

    interface OnValue {
        void call(Patiencery x, int value);
    }

    void due(String what, long got, long due) {
        looked++;
        if (got != due) {
            wrong++;
            System.out.println(promise + ": " + what + " answered " + got + ", due is " + due);
        }
    }

    void due(String what, String got, String due) {
        looked++;
        if (!got.equals(due)) {
            wrong++;
            System.out.println(promise + ": " + what + " is\n  " + got + ", due is\n  " + due);
        }
    }

    /** The call throws just this exception, and changes nothing that can be seen. */
    void refused(String what, Patiencery x, Class<? extends RuntimeException> due, Call call) {
        String before = all(x);
        String got = "nothing";
        try {
            call.make();
        } catch (RuntimeException e) {
            got = e.getClass().getSimpleName();
        }
        due(what + " throws", got, due.getSimpleName());
        due("what can be seen behind " + what, all(x), before);
    }

    void refused(String what, Patiencery x, Call call) {
        refused(what, x, IllegalArgumentException.class, call);
    }

    /** Refused of one of two objects that are alike: they stay so, also by what they do from then on. */
    void refusedAlike(String what, Made made, Class<? extends RuntimeException> due, On call) {
        Patiencery x = made.make();
        Patiencery y = made.make();
        refused(what, x, due, () -> call.call(x));
        due("what goes on behind " + what, goneOn(x), goneOn(y));
    }

    void taken(String what, Patiencery x, On call) {
        String got = "nothing";
        try {
            call.call(x);
        } catch (RuntimeException e) {
            got = e.getClass().getSimpleName();
        }
        due(what + " throws", got, "nothing");
    }

    /** The least and the greatest value are taken, and those next to them; those beyond, and the farthest ones, are refused. */
    void range(String what, Made made, int least, int greatest, OnValue call) {
        for (int value : new int[] {least, Math.min(least + 1, greatest), Math.max(greatest - 1, least), greatest}) {
            taken(what + " with " + value, made.make(), x -> call.call(x, value));
        }
        for (int value : new int[] {least - 1, greatest + 1, Integer.MIN_VALUE, Integer.MAX_VALUE}) {
            refusedAlike(what + " with " + value, made, IllegalArgumentException.class, x -> call.call(x, value));
        }
    }

    /** Some moves, all undone, the next deal and some moves again: what is told by the rules of both deals. */
    static String goneOn(Patiencery x) {
        String text = someMoves(x) + x.undo(200) + shown(x) + told(x) + x.deal(1, 9) + someMoves(x);
        return text + x.undo(200) + shown(x) + told(x);
    }

    private static String someMoves(Patiencery x) {
        StringBuilder text = new StringBuilder();
        for (int n = 0; n < 12 && x.moves() > 0 && x.told(1) < 200; n++) {
            int code = x.moveAt(n % x.moves());
            text.append(code).append(' ');
            play(x, code);
        }
        return text + shown(x) + told(x) + listed(x);
    }

    /** Does moves told as moveAt() tells them. */
    static void play(Patiencery x, int... codes) {
        for (int code : codes) {
            x.move(code / 1000, code / 100 % 10, code % 100);
        }
    }

    /** The columns [first .. last], the cells c, the waste w and the stock s from the top on, the foundations f. */
    static String shown(Patiencery x) {
        StringBuilder text = new StringBuilder();
        for (int place = 0; place < 10; place++) {
            String[] names = {"", "", "", "", "", "c", "c", "w", "f", "s"};
            text.append(names[place]).append('[');
            int depth = 0;
            for (int card = x.card(place, 0); depth < (place == 8 ? 4 : 17); card = x.card(place, ++depth)) {
                if (card == Patiencery.NONE && place != 8) {
                    break;
                }
                text.append(depth == 0 ? "" : " ");
                text.append(card == Patiencery.NONE ? "." : card == Patiencery.UNKNOWN ? "?" : String.valueOf(card));
            }
            text.append(']');
        }
        return text.toString();
    }

    static String told(Patiencery x) {
        StringBuilder text = new StringBuilder();
        for (int what = 0; what < 8; what++) {
            text.append(what == 0 ? "" : " ").append(x.told(what));
        }
        return text.toString();
    }

    static String listed(Patiencery x) {
        List<Integer> codes = new ArrayList<>();
        for (int place = 0; place < x.moves(); place++) {
            codes.add(x.moveAt(place));
        }
        return codes.toString();
    }

    /** All that can be seen: the next rules too, by what they make of some numbers. */
    static String all(Patiencery x) {
        return shown(x) + " " + told(x) + " " + listed(x) + " " + x.numberOf(0) + " " + x.numberOf(1) + " "
            + x.odds(0, 3, 8, 40) + " " + x.odds(1, 5, 8, 3) + " " + x.known(30);
    }

    /** Deals these cards in this order, by the first number of the machine 0 that gives it. */
    static int dealing(Patiencery x, Integer... order) {
        for (int number = 0; number <= 1000000; number++) {
            if (Model.drawn(0, number, order.length).equals(List.of(order))) {
                return x.deal(0, number);
            }
        }
        throw new IllegalStateException("no number gives " + List.of(order));
    }

    /** A new object with rules: suits, ranks, columns, cells, build, empty, stock, again. */
    static Patiencery ruled(int... r) {
        Patiencery x = new Patiencery();
        x.deck(r[0], r[1]);
        x.table(r[2], r[3], r[4], r[5]);
        x.stock(r.length > 6 ? r[6] : 0, r.length > 7 ? r[7] : 0, false);
        return x;
    }
}
