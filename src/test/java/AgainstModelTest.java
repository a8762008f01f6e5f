/** Long runs of calls on a Patiencery and on the Model beside it: all answers are to be alike. */
public final class AgainstModelTest {
    private static final int NOTHING = 1 << 30, ILLEGAL_ARGUMENT = NOTHING + 1, ILLEGAL_STATE = NOTHING + 2;
    private static final int OUT_OF_BOUNDS = NOTHING + 3;

    private long seed;
    private Patiencery real;
    private Model model;
    private int wrong = 0;
    private String run = "";

    private AgainstModelTest(long start) {
        seed = start;
    }

    /** From 0 to many less 1, by a machine of its own, so that each run of the tests is the same. */
    private int some(int many) {
        seed = seed * 6364136223846793005L + 1442695040888963407L;
        return (int) ((seed >>> 33) % many);
    }

    private int about(int least, int most) {
        return some(12) == 0 ? least - 1 + some(2) * (most - least + 2) : least + some(most - least + 1);
    }

    private interface Call {
        int answer();
    }

    private static int answer(Call call) {
        try {
            return call.answer();
        } catch (IndexOutOfBoundsException e) {
            return e.getClass() == IndexOutOfBoundsException.class ? OUT_OF_BOUNDS : NOTHING - 1;
        } catch (IllegalArgumentException e) {
            return ILLEGAL_ARGUMENT;
        } catch (IllegalStateException e) {
            return ILLEGAL_STATE;
        }
    }

    private void alike(String name, Call ofReal, Call ofModel) {
        int got = answer(ofReal);
        int due = answer(ofModel);
        run = run + " " + name;
        if (got != due) {
            wrong++;
            System.out.println(name + " answered " + got + ", due is " + due + " behind" + run);
        }
    }

    private void tellRules() {
        int suits = about(1, 4);
        int ranks = about(1, 6);
        alike("deck(" + suits + "," + ranks + ")", () -> real.deck(suits, ranks), () -> model.deck(suits, ranks));
        int columns = about(1, 5);
        int cells = about(0, 2);
        int build = about(0, 2);
        int empty = some(3) == 0 ? about(0, 2) : 0;
        alike("table(" + columns + "," + cells + "," + build + "," + empty + ")", () -> {
            real.table(columns, cells, build, empty);
            return NOTHING;
        }, () -> {
            model.table(columns, cells, build, empty);
            return NOTHING;
        });
        int cards = some(3) == 0 ? 0 : about(0, 8);
        int again = about(0, 2);
        boolean hidden = some(2) == 0;
        alike("stock(" + cards + "," + again + "," + hidden + ")", () -> {
            real.stock(cards, again, hidden);
            return NOTHING;
        }, () -> {
            model.stock(cards, again, hidden);
            return NOTHING;
        });
    }

    private void deal() {
        int machine = some(30) == 0 ? 2 - 3 * some(2) : some(2);
        int number = some(2) == 0 ? some(520) : about(0, 1000000);
        alike("deal(" + machine + "," + number + ")", () -> real.deal(machine, number), () -> model.deal(machine, number));
    }

    private void moveSomehow() {
        int count = model.moves();
        int from;
        int to;
        int many;
        if (some(6) != 0 && count > 0) {
            int code = model.moveAt(some(count));
            from = code / 1000;
            to = code / 100 % 10;
            many = code % 100;
        } else {
            from = about(0, 9);
            to = about(0, 8);
            many = some(3) == 0 ? about(1, 16) : 1;
        }
        int a = from;
        int b = to;
        int c = many;
        alike("move(" + a + "," + b + "," + c + ")", () -> real.move(a, b, c), () -> model.move(a, b, c));
    }

    private void seeAll() {
        for (int what = -1; what <= 8; what++) {
            int w = what;
            alike("told(" + w + ")", () -> real.told(w), () -> model.told(w));
        }
        for (int place = -1; place <= 10; place++) {
            for (int depth = -1; depth <= 17; depth++) {
                int p = place;
                int d = depth == 17 ? Integer.MAX_VALUE : depth;
                alike("card(" + p + "," + d + ")", () -> real.card(p, d), () -> model.card(p, d));
            }
        }
        alike("moves()", () -> real.moves(), () -> model.moves());
        for (int place = -1; place <= model.moves(); place++) {
            int p = place;
            alike("moveAt(" + p + ")", () -> real.moveAt(p), () -> model.moveAt(p));
        }
    }

    private void search() {
        int bound = some(3) == 0 ? about(1, 400) : 1 + some(60);
        alike("search(" + bound + ")", () -> real.search(bound), () -> model.search(bound));
        alike("known(" + bound + ")", () -> real.known(bound), () -> model.known(bound));
    }

    private void odds() {
        int machine = about(0, 1);
        int from = some(4) == 0 ? 1000000 - some(3) + some(3) : some(1000);
        int many = about(1, 8);
        int bound = some(4) == 0 ? about(1, 200) : 1 + some(60);
        alike("odds(" + machine + "," + from + "," + many + "," + bound + ")",
            () -> real.odds(machine, from, many, bound), () -> model.odds(machine, from, many, bound));
    }

    private void undo() {
        int many = some(3) == 0 ? about(1, 200) : 1 + some(3);
        alike("undo(" + many + ")", () -> real.undo(many), () -> model.undo(many));
    }

    /** All moves with up to six cards, there or not; those that are there are undone at once. */
    private void tryAllMoves() {
        for (int code = 0; code < 10000; code++) {
            int from = code / 1000;
            int to = code / 100 % 10;
            int many = code % 100;
            if (many < 7 && wrong == 0) {
                int done = model.told(1);
                alike("move(" + from + "," + to + "," + many + ")", () -> real.move(from, to, many),
                    () -> model.move(from, to, many));
                if (model.told(1) > done) {
                    alike("undo(1)", () -> real.undo(1), () -> model.undo(1));
                }
            }
        }
    }

    /** Rules with few cards, whose positions a hint can know all, and hints all the way. */
    private void runWithHints() {
        real = new Patiencery();
        model = new Model();
        int suits = 1 + some(3);
        int ranks = suits == 1 ? 3 + some(3) : suits == 2 ? 2 + some(3) : 2;
        int columns = 1 + some(3);
        int cells = some(3);
        int build = some(3);
        int empty = some(3);
        int cards = some(2) * some(4);
        int again = some(3);
        boolean hidden = some(2) == 0;
        real.deck(suits, ranks);
        model.deck(suits, ranks);
        real.table(columns, cells, build, empty);
        model.table(columns, cells, build, empty);
        real.stock(Math.min(cards, suits * ranks - 1), again, hidden);
        model.stock(Math.min(cards, suits * ranks - 1), again, hidden);
        run = " deck(" + suits + "," + ranks + ") table(" + columns + "," + cells + "," + build + "," + empty + ") stock("
            + cards + "," + again + "," + hidden + ")";
        deal();
        for (int n = 0; n < 12 && wrong == 0; n++) {
            alike("hint()", () -> real.hint(), () -> model.hint());
            alike("search(100)", () -> real.search(100), () -> model.search(100));
            alike("known(100)", () -> real.known(100), () -> model.known(100));
            int code = model.hint();
            if (code != Model.NONE && some(3) != 0) {
                alike("move" + code, () -> real.move(code / 1000, code / 100 % 10, code % 100),
                    () -> model.move(code / 1000, code / 100 % 10, code % 100));
            } else {
                moveSomehow();
            }
        }
    }

    private void call() {
        int kind = some(100);
        if (kind < 50) {
            moveSomehow();
        } else if (kind < 60) {
            undo();
        } else if (kind < 65) {
            alike("safe()", () -> real.safe(), () -> model.safe());
        } else if (kind < 70) {
            seeAll();
        } else if (kind < 80) {
            search();
        } else if (kind < 85) {
            alike("hint()", () -> real.hint(), () -> model.hint());
        } else if (kind < 88) {
            odds();
        } else if (kind < 91) {
            int machine = about(0, 1);
            alike("numberOf(" + machine + ")", () -> real.numberOf(machine), () -> model.numberOf(machine));
        } else if (kind < 94) {
            tellRules();
        } else if (kind < 97) {
            tellRules();
            deal();
        } else {
            deal();
        }
    }

    private void run(int calls) {
        real = new Patiencery();
        model = new Model();
        seeAll();
        for (int n = 0; n < calls && wrong == 0; n++) {
            run = run.length() > 3000 ? ".." + run.substring(run.length() - 1500) : run;
            call();
        }
        seeAll();
        tryAllMoves();
    }

    /** Many moves one behind the other, so that 200 are done, and play that is safe ends there too. */
    private void runToTheLastMove() {
        real = new Patiencery();
        model = new Model();
        tellRules();
        deal();
        for (int n = 0; n < 320 && wrong == 0; n++) {
            int count = model.moves();
            if (count == 0) {
                break;
            }
            moveSomehow();
            if (n % 50 == 0) {
                alike("safe()", () -> real.safe(), () -> model.safe());
            }
        }
        seeAll();
        alike("undo(3)", () -> real.undo(3), () -> model.undo(3));
        alike("safe()", () -> real.safe(), () -> model.safe());
        seeAll();
    }

    public static void main(String[] args) {
        int runs = args.length > 0 ? Integer.parseInt(args[0]) : 300;
        int wrong = 0;
        for (int n = 0; n < runs && wrong == 0; n++) {
            AgainstModelTest long1 = new AgainstModelTest(1000L * n + 7);
            long1.run(60);
            AgainstModelTest long2 = new AgainstModelTest(1000L * n + 8);
            long2.runToTheLastMove();
            AgainstModelTest hints = new AgainstModelTest(1000L * n + 9);
            hints.runWithHints();
            wrong += long1.wrong + long2.wrong + hints.wrong;
        }
        System.out.println(wrong == 0 ? "AgainstModelTest: all answers are alike" : "AgainstModelTest: " + wrong + " wrong");
        if (wrong != 0) {
            System.exit(1);
        }
    }
}
