import java.util.function.IntSupplier;

/**
 * Every call with every mixture of small numbers and both ends of int, on a drawing of nothing, of some actions and
 * of 24, each answer or exception compared with that of PlainModel.
 */
public final class EndsTest {
    private static final Check CHECK = new Check();
    private static final int[] NUMBERS = {Integer.MIN_VALUE, -1, 0, 1, Integer.MAX_VALUE};
    private static final int CALLS = 512;

    private final int actions;
    private AmendedDrawing real;
    private PlainModel model;
    private int calls;

    private EndsTest(int actions) {
        this.actions = actions;
        begin();
    }

    public static void main(String[] args) {
        for (int actions : new int[] {0, 9, 24}) {
            EndsTest test = new EndsTest(actions);
            test.oneNumber();
            test.twoNumbers();
            test.threeAndFourNumbers();
            test.fiveNumbers();
            test.fourNumbersOfEachKind();
        }
        CHECK.end("EndsTest");
    }

    private void begin() {
        real = new AmendedDrawing();
        model = new PlainModel();
        calls = 0;
        int[][] row = {{0, 0, 0, 0, 1290}, {0, 1, -1, -1, 129}, {6, 0, 1, 0, 0}, {4, 2, 1, 0, 0}, {8, 1, 1, 1, 0}};
        for (int n = 0; n < actions; n++) {
            int[] v = n < row.length ? row[n] : new int[] {5, n % 2, 1, 0, 0};
            real.commit(v[0], v[1], v[2], v[3], v[4]);
            model.commit(v[0], v[1], v[2], v[3], v[4]);
            calls++;
        }
    }

    private String check(String call, IntSupplier got, IntSupplier want) {
        String due = answer(want);
        CHECK.text(actions + " actions: the answer of " + call, answer(got), due);
        calls++;
        return due;
    }

    private static String answer(IntSupplier call) {
        try {
            return Integer.toString(call.getAsInt());
        } catch (RuntimeException e) {
            return e.getClass().getName();
        }
    }

    /** The object is a new one before it comes near its 512th call, as what it answers behind that is free. */
    private void renew() {
        if (calls > CALLS - 2) {
            begin();
        }
    }

    private void ask(String call, IntSupplier got, IntSupplier want) {
        check(call, got, want);
        renew();
    }

    /** Takes back what an edit that was not refused has done, so that each call finds the same drawing. */
    private void edit(String call, IntSupplier got, IntSupplier want) {
        boolean refused = check(call, got, want).startsWith("java");
        if (!refused) {
            check("undo behind " + call, real::undo, model::undo);
        }
        renew();
    }

    private void oneNumber() {
        for (int n : NUMBERS) {
            edit("withdraw(" + n + ")", () -> real.withdraw(n), () -> model.withdraw(n));
            edit("reinstate(" + n + ")", () -> real.reinstate(n), () -> model.reinstate(n));
            ask("effect(" + n + ")", () -> real.effect(n), () -> model.effect(n));
        }
    }

    private void twoNumbers() {
        for (int a : NUMBERS) {
            for (int b : NUMBERS) {
                String with = "(" + a + ", " + b + ")";
                ask("argument" + with, () -> real.argument(a, b), () -> model.argument(a, b));
                ask("needed" + with, () -> real.needed(a, b), () -> model.needed(a, b));
                ask("needs" + with, () -> real.needs(a, b), () -> model.needs(a, b));
                ask("object" + with, () -> real.object(a, b), () -> model.object(a, b));
                ask("hit" + with, () -> real.hit(a, b), () -> model.hit(a, b));
            }
        }
    }

    private void threeAndFourNumbers() {
        for (int a : NUMBERS) {
            for (int b : NUMBERS) {
                for (int c : NUMBERS) {
                    String with = "(" + a + ", " + b + ", " + c;
                    edit("amend" + with + ")", () -> real.amend(a, b, c), () -> model.amend(a, b, c));
                    for (int d : NUMBERS) {
                        ask("shown" + with + ", " + d + ")",
                                () -> real.shown(a, b, c, d), () -> model.shown(a, b, c, d));
                    }
                }
            }
        }
    }

    private void fiveNumbers() {
        for (int mixture = 0; mixture < 5 * 5 * 5 * 5 * 5; mixture++) {
            int a = NUMBERS[mixture % 5];
            int b = NUMBERS[mixture / 5 % 5];
            int c = NUMBERS[mixture / 25 % 5];
            int d = NUMBERS[mixture / 125 % 5];
            int e = NUMBERS[mixture / 625];
            String with = "(" + a + ", " + b + ", " + c + ", " + d + ", " + e + ")";
            ask("inside" + with, () -> real.inside(a, b, c, d, e), () -> model.inside(a, b, c, d, e));
            edit("commit" + with, () -> real.commit(a, b, c, d, e), () -> model.commit(a, b, c, d, e));
        }
    }

    private void fourNumbersOfEachKind() {
        for (int mixture = 0; mixture < 10 * 5 * 5 * 5 * 5; mixture++) {
            int kind = mixture % 10;
            int a = NUMBERS[mixture / 10 % 5];
            int b = NUMBERS[mixture / 50 % 5];
            int c = NUMBERS[mixture / 250 % 5];
            int d = NUMBERS[mixture / 1250];
            edit("commit(" + kind + ", " + a + ", " + b + ", " + c + ", " + d + ")",
                    () -> real.commit(kind, a, b, c, d), () -> model.commit(kind, a, b, c, d));
        }
    }
}
