import java.util.Random;
import java.util.function.IntSupplier;

/** Long runs of mixed calls, each answer compared with that of PlainModel. The runs are the same every time. */
public final class ModelTest {
    private static final int RUNS = 400;
    private static final int HISTORY_RUNS = 100;
    private static final int CALLS = 512;
    private static final Check CHECK = new Check();
    private static final int[] FAR = {Integer.MIN_VALUE, Integer.MAX_VALUE, -201, 201, -1, 24, 8, 10};

    private final Random random;
    private final AmendedDrawing real = new AmendedDrawing();
    private final PlainModel model = new PlainModel();
    private int calls;

    private ModelTest(long seed) {
        random = new Random(seed);
    }

    public static void main(String[] args) {
        for (int run = 0; run < RUNS; run++) {
            new ModelTest(run).run(run);
        }
        for (int run = RUNS; run < RUNS + HISTORY_RUNS; run++) {
            new ModelTest(run).runThroughHistory(run);
        }
        CHECK.end("ModelTest");
    }

    private void run(int run) {
        // Some runs stay small, some fill the row at once, some edit much and commit little.
        int commits = 10 + run % 4 * 20;
        while (calls < CALLS) {
            if (random.nextInt(100) < commits) {
                commit(run);
            } else if (random.nextInt(100) < 45) {
                edit(run);
            } else {
                ask(run);
            }
        }
    }

    /** Many edits at once, then many undone and some done again: single calls hardly ever come to the 32nd. */
    private void runThroughHistory(int run) {
        while (calls < CALLS) {
            for (int k = random.nextInt(60); k > 0; k--) {
                if (random.nextInt(4) == 0) {
                    commit(run);
                } else {
                    amend(run, someAction());
                }
            }
            for (int k = random.nextInt(36); k > 0; k--) {
                undo(run);
            }
            for (int k = random.nextInt(36) - 18; k > 0; k--) {
                redo(run);
            }
            wholeObject(run);
        }
    }

    private void compare(int run, String call, IntSupplier got, IntSupplier want) {
        // What an object answers behind its 512th call is free.
        if (calls == CALLS) {
            return;
        }
        calls++;
        String due = answer(want);
        String is = answer(got);
        CHECK.holds("run " + run + ", call " + calls + ": " + call + " answered " + is + ", due is " + due,
                is.equals(due));
    }

    private static String answer(IntSupplier call) {
        try {
            return Integer.toString(call.getAsInt());
        } catch (RuntimeException e) {
            return e.getClass().getName();
        }
    }

    private int among(int least, int most) {
        if (random.nextInt(60) == 0) {
            return FAR[random.nextInt(FAR.length)];
        }
        return least + random.nextInt(most - least + 1);
    }

    private int someName() {
        if (model.objects() > 0 && random.nextInt(8) > 0) {
            return model.object(random.nextInt(model.objects()), 0);
        }
        return among(0, 23);
    }

    private int someAction() {
        return among(0, Math.max(0, model.actions() - 1));
    }

    private int somePlace() {
        return random.nextInt(4) == 0 ? among(-200, 200) : among(-30, 30);
    }

    private int someSize() {
        if (random.nextInt(20) == 0) {
            return random.nextInt(14000) - 200;
        }
        return among(1, 40) + 128 * (1 + random.nextInt(40));
    }

    private int someArgument(int kind, int i) {
        if (kind == 0) {
            return i == 0 ? among(0, 2) : i == 3 ? someSize() : somePlace();
        }
        if (i == 0 || i == 1 && (kind == 6 || kind == 9)) {
            return someName();
        }
        return switch (kind) {
            case 2, 8 -> somePlace();
            case 3 -> among(1, 9);
            case 4 -> among(0, 7);
            case 5 -> among(0, 1);
            case 9 -> among(0, 3);
            default -> among(-1000, 1000);
        };
    }

    private void commit(int run) {
        int kind = random.nextInt(3) == 0 ? 0 : random.nextInt(4) == 0 ? 6 : among(0, 9);
        int a = someArgument(kind, 0);
        int b = someArgument(kind, 1);
        int c = someArgument(kind, 2);
        int d = someArgument(kind, 3);
        compare(run, "commit(" + kind + ", " + a + ", " + b + ", " + c + ", " + d + ")",
                () -> real.commit(kind, a, b, c, d), () -> model.commit(kind, a, b, c, d));
    }

    private void edit(int run) {
        int n = someAction();
        switch (random.nextInt(6)) {
            case 0 -> compare(run, "withdraw(" + n + ")", () -> real.withdraw(n), () -> model.withdraw(n));
            case 1, 2 -> compare(run, "reinstate(" + n + ")", () -> real.reinstate(n), () -> model.reinstate(n));
            case 3 -> amend(run, n);
            case 4 -> undo(run);
            default -> redo(run);
        }
    }

    private void undo(int run) {
        compare(run, "undo()", real::undo, model::undo);
    }

    private void redo(int run) {
        compare(run, "redo()", real::redo, model::redo);
    }

    private void amend(int run, int n) {
        int i = among(0, 3);
        boolean there = n >= 0 && n < model.actions();
        int v = someArgument(there ? model.argument(n, 4) : 0, i);
        compare(run, "amend(" + n + ", " + i + ", " + v + ")", () -> real.amend(n, i, v), () -> model.amend(n, i, v));
    }

    private void ask(int run) {
        int n = someAction();
        int i = among(0, 3);
        switch (random.nextInt(8)) {
            case 0 -> compare(run, "needed(" + n + ", " + i + ")", () -> real.needed(n, i), () -> model.needed(n, i));
            case 1 -> compare(run, "needs(" + n + ", " + i + ")", () -> real.needs(n, i), () -> model.needs(n, i));
            case 2 -> compare(run, "effect(" + n + ")", () -> real.effect(n), () -> model.effect(n));
            case 3 -> {
                int what = among(0, 4);
                compare(run, "argument(" + n + ", " + what + ")",
                        () -> real.argument(n, what), () -> model.argument(n, what));
            }
            case 4 -> {
                compare(run, "actions()", real::actions, model::actions);
                compare(run, "objects()", real::objects, model::objects);
            }
            case 5 -> wholeObject(run);
            default -> places(run);
        }
    }

    private void wholeObject(int run) {
        int k = among(0, Math.max(0, model.objects() - 1));
        for (int what = 0; what < 8; what++) {
            int asked = what;
            compare(run, "object(" + k + ", " + what + ")", () -> real.object(k, asked), () -> model.object(k, asked));
        }
        int what = among(0, 7);
        compare(run, "object(" + k + ", " + what + ")", () -> real.object(k, what), () -> model.object(k, what));
    }

    private void places(int run) {
        int x = somePlace();
        int y = somePlace();
        int n = among(1, 8);
        int colour = among(-1, 2);
        int right = x + random.nextInt(100);
        int lower = y + random.nextInt(100);
        int k = among(0, 2);
        compare(run, "hit(" + x + ", " + y + ")", () -> real.hit(x, y), () -> model.hit(x, y));
        compare(run, "shown(" + x + ", " + y + ", " + n + ", " + colour + ")",
                () -> real.shown(x, y, n, colour), () -> model.shown(x, y, n, colour));
        compare(run, "inside(" + x + ", " + y + ", " + right + ", " + lower + ", " + k + ")",
                () -> real.inside(x, y, right, lower, k), () -> model.inside(x, y, right, lower, k));
    }
}
