/** The least and the greatest of each argument of each kind, and the next beyond them (promises 2, 5 and 9). */
public final class ArgumentEdgesTest {
    private static final Check CHECK = new Check();
    private static final Class<IllegalArgumentException> ARGUMENT = IllegalArgumentException.class;
    private static final Class<IllegalStateException> STATE = IllegalStateException.class;
    private static final int MIN = Integer.MIN_VALUE;
    private static final int MAX = Integer.MAX_VALUE;

    /** How many arguments each kind has. */
    private static final int[] ARGUMENTS = {4, 1, 3, 3, 2, 2, 2, 1, 3, 3};

    /** In the row of allKinds(): the number of the action of each kind. */
    private static final int[] ACTION_OF_KIND = {0, 10, 2, 3, 4, 5, 6, 7, 8, 9};

    /** Kind, argument, least, greatest; the size of MAKE is no such range. */
    private static final int[][] RANGES = {
        {0, 0, 0, 2}, {0, 1, -200, 200}, {0, 2, -200, 200},
        {1, 0, 0, 23},
        {2, 0, 0, 23}, {2, 1, -200, 200}, {2, 2, -200, 200},
        {3, 0, 0, 23}, {3, 1, 1, 9}, {3, 2, 1, 9},
        {4, 0, 0, 23}, {4, 1, 0, 7},
        {5, 0, 0, 23}, {5, 1, 0, 1},
        {6, 0, 0, 23}, {6, 1, 0, 23},
        {7, 0, 0, 23},
        {8, 0, 0, 23}, {8, 1, -200, 200}, {8, 2, -200, 200},
        {9, 0, 0, 23}, {9, 1, 0, 23}, {9, 2, 0, 3},
    };

    /** Widths and heights 1 and 100 in all four ways, as size % 128 and size / 128. */
    private static final int[] SIZES = {129, 228, 12801, 12900};

    private static final int[] NO_SIZES = {
        128, 100 * 128, 128 + 101, 128 + 127, 100 * 128 + 101,
        0, 1, 100, 127, 101 * 128 + 1, 101 * 128 + 100, 127 * 128 + 1,
        -1, -128, -129, -228, -12900, MIN, MAX, MIN + 129, 128 * 128 + 1, 65536 + 129,
    };

    public static void main(String[] args) {
        promise2KindsFrom0To9();
        promise2EachArgumentFromLeastToGreatest();
        promise2FarNumbersAreNoArguments();
        promise2Sizes();
        promise2SizeGivesWidthAndHeight();
        promise2ShapesAtBothEnds();
        promise2PlacesAtBothEnds();
        promise2FactorsAtBothEnds();
        promise2ColoursAtBothEnds();
        promise2Name0();
        promise2Name22IsTheLastThatCanBeThere();
        promise2Name23IsAnArgumentButNeverThere();
        promise2OtherArgumentsDontCount();
        promise5EachArgumentFromLeastToGreatest();
        promise5FarNumbersAreNoArguments();
        promise5Sizes();
        promise5KindHasNoSuchArgument();
        CHECK.end("ArgumentEdgesTest");
    }

    /** Action n is of kind n, but for 1, which is another MAKE, and 10, the DELETE; each of them is done. */
    private static AmendedDrawing allKinds() {
        AmendedDrawing d = new AmendedDrawing();
        Sketch.make(d, 0, 0, 0, 10, 10);
        Sketch.make(d, 1, -1, -1, 1, 1);
        Sketch.move(d, 0, 1, 1);
        Sketch.scale(d, 0, 2, 2);
        Sketch.paint(d, 0, 1);
        Sketch.raise(d, 0, 1);
        Sketch.group(d, 0, 1);
        Sketch.ungroup(d, 6);
        Sketch.twice(d, 0, 20, 20);
        Sketch.align(d, 0, 1, 0);
        Sketch.delete(d, 8);
        return d;
    }

    /** The arguments of the action of a kind in allKinds(), with another one for one of them. */
    private static int[] changed(int kind, int i, int v) {
        AmendedDrawing d = allKinds();
        int[] arguments = new int[4];
        for (int k = 0; k < 4; k++) {
            arguments[k] = d.argument(ACTION_OF_KIND[kind], k);
        }
        arguments[i] = v;
        return arguments;
    }

    private static String call(int kind, int[] v) {
        return "commit(" + kind + ", " + v[0] + ", " + v[1] + ", " + v[2] + ", " + v[3] + ")";
    }

    private static int commit(AmendedDrawing d, int kind, int[] v) {
        return d.commit(kind, v[0], v[1], v[2], v[3]);
    }

    /** An argument that is one: the action is done or would be without effect, which is no wrong argument. */
    private static void committed(int kind, int i, int v) {
        int[] arguments = changed(kind, i, v);
        AmendedDrawing d = allKinds();
        boolean taken = true;
        try {
            taken = commit(d, kind, arguments) == 11;
        } catch (IllegalStateException withoutEffect) {
            CHECK.same("actions behind " + call(kind, arguments), d.actions(), 11);
        } catch (IllegalArgumentException wrong) {
            taken = false;
        }
        CHECK.holds(call(kind, arguments) + " has arguments", taken);
    }

    private static void notCommitted(int kind, int i, int v) {
        int[] arguments = changed(kind, i, v);
        Watch.refused(CHECK, call(kind, arguments), ARGUMENT, ArgumentEdgesTest::allKinds,
                d -> commit(d, kind, arguments));
    }

    private static void amended(int kind, int i, int v) {
        AmendedDrawing d = allKinds();
        int n = ACTION_OF_KIND[kind];
        int before = d.argument(n, i);
        CHECK.same("amend(" + n + ", " + i + ", " + v + ")", d.amend(n, i, v), before);
        CHECK.same("argument(" + n + ", " + i + ") behind it", d.argument(n, i), v);
    }

    private static void notAmended(int kind, int i, int v) {
        int n = ACTION_OF_KIND[kind];
        Watch.refused(CHECK, "amend(" + n + ", " + i + ", " + v + ")", ARGUMENT, ArgumentEdgesTest::allKinds,
                d -> d.amend(n, i, v));
    }

    /** "IllegalArgumentException when there is no such kind": kinds are 0 .. 9. */
    private static void promise2KindsFrom0To9() {
        for (int kind = 0; kind <= 9; kind++) {
            AmendedDrawing d = allKinds();
            CHECK.same("kind in the row", d.argument(ACTION_OF_KIND[kind], 4), kind);
            CHECK.same("effect in the row", d.effect(ACTION_OF_KIND[kind]), 1);
        }
        for (int kind : new int[] {-1, 10, MIN, MAX}) {
            Watch.refused(CHECK, "kind " + kind, ARGUMENT, ArgumentEdgesTest::allKinds,
                    d -> d.commit(kind, 0, 1, 1, 129));
            Watch.refused(CHECK, "kind " + kind + " first of all", ARGUMENT, AmendedDrawing::new,
                    d -> d.commit(kind, 0, 1, 1, 129));
        }
    }

    /** "a and o are names, 0 .. 23; x and y are -200 .. 200", s 0 .. 2, p and q 1 .. 9, c 0 .. 7, e 0, 1 or 0 .. 3. */
    private static void promise2EachArgumentFromLeastToGreatest() {
        for (int[] range : RANGES) {
            committed(range[0], range[1], range[2]);
            committed(range[0], range[1], range[3]);
            notCommitted(range[0], range[1], range[2] - 1);
            notCommitted(range[0], range[1], range[3] + 1);
        }
    }

    private static void promise2FarNumbersAreNoArguments() {
        for (int[] range : RANGES) {
            notCommitted(range[0], range[1], MIN);
            notCommitted(range[0], range[1], MAX);
        }
    }

    /** "width size % 128, height size / 128 (each 1 .. 100)". */
    private static void promise2Sizes() {
        for (int size : SIZES) {
            committed(0, 3, size);
        }
        for (int size : NO_SIZES) {
            notCommitted(0, 3, size);
        }
    }

    private static void promise2SizeGivesWidthAndHeight() {
        for (int size : SIZES) {
            AmendedDrawing d = new AmendedDrawing();
            d.commit(0, 0, 0, 0, size);
            CHECK.same("width of size " + size, d.object(0, 4), size == 129 || size == 12801 ? 1 : 100);
            CHECK.same("height of size " + size, d.object(0, 5), size == 129 || size == 228 ? 1 : 100);
        }
    }

    private static void promise2ShapesAtBothEnds() {
        for (int shape = 0; shape <= 2; shape++) {
            AmendedDrawing d = new AmendedDrawing();
            Sketch.make(d, shape, 0, 0, 1, 1);
            CHECK.same("shape", d.object(0, 1), shape);
        }
    }

    /** -200 and 200 are done where the limits let them, and 201 is none even where they would. */
    private static void promise2PlacesAtBothEnds() {
        AmendedDrawing d = new AmendedDrawing();
        Sketch.make(d, 0, -200, -200, 1, 1);
        Sketch.move(d, 0, 200, 200);
        CHECK.text("box moved by 200", Sketch.box(d, 0), "0 0 1 1");
        Sketch.move(d, 0, -200, -200);
        CHECK.text("box moved by -200", Sketch.box(d, 0), "-200 -200 1 1");
        CHECK.fails("moved by 201", ARGUMENT, () -> Sketch.move(d, 0, 201, 0));
        CHECK.fails("moved by 201", ARGUMENT, () -> Sketch.move(d, 0, 0, 201));
        int right = Sketch.twice(d, 0, 200, 200);
        CHECK.text("box doubled by 200", Sketch.box(d, right), "0 0 1 1");
        int left = Sketch.twice(d, right, -200, -200);
        CHECK.text("box doubled by -200", Sketch.box(d, left), "-200 -200 1 1");
        CHECK.fails("doubled by 201", ARGUMENT, () -> Sketch.twice(d, 0, 201, 0));
        CHECK.fails("doubled by 201", ARGUMENT, () -> Sketch.twice(d, 0, 0, 201));
        CHECK.fails("made at 200", STATE, () -> Sketch.make(d, 0, 200, 0, 1, 1));
        CHECK.fails("made at 200", STATE, () -> Sketch.make(d, 0, 0, 200, 1, 1));
    }

    private static void promise2FactorsAtBothEnds() {
        AmendedDrawing d = new AmendedDrawing();
        Sketch.make(d, 0, 0, 0, 9, 18);
        Sketch.scale(d, 0, 9, 1);
        CHECK.text("box scaled by 9 / 1", Sketch.box(d, 0), "0 0 81 162");
        Sketch.scale(d, 0, 1, 9);
        CHECK.text("box scaled by 1 / 9", Sketch.box(d, 0), "0 0 9 18");
        Sketch.scale(d, 0, 9, 9);
        CHECK.text("box scaled by 9 / 9", Sketch.box(d, 0), "0 0 9 18");
        Sketch.scale(d, 0, 1, 1);
        CHECK.text("box scaled by 1 / 1", Sketch.box(d, 0), "0 0 9 18");
    }

    /** "a COLOUR 0 .. 7"; a new shape has colour 0, and to be painted as it is is done, too. */
    private static void promise2ColoursAtBothEnds() {
        AmendedDrawing d = Sketch.squares(1);
        for (int colour : new int[] {0, 7, 7, 0}) {
            int n = Sketch.paint(d, 0, colour);
            CHECK.same("effect", d.effect(n), 1);
            CHECK.same("colour", d.object(0, 6), colour);
        }
    }

    private static void promise2Name0() {
        int[][] calls = {
            {1, 0, 0, 0}, {2, 0, 1, 1}, {3, 0, 1, 1}, {4, 0, 1, 0}, {5, 0, 1, 0},
            {6, 0, 1, 0}, {6, 1, 0, 0}, {8, 0, 1, 1}, {9, 0, 1, 1}, {9, 1, 0, 1},
        };
        for (int[] v : calls) {
            CHECK.same("kind " + v[0] + " with name 0", Sketch.squares(2).commit(v[0], v[1], v[2], v[3], 0), 2);
        }
    }

    /** 22 actions, of which the first one is a shape, then one of this kind, which makes an object with name 22. */
    private static AmendedDrawing withObject22(int kind) {
        AmendedDrawing d = Sketch.squares(2);
        while (d.actions() < 22) {
            Sketch.raise(d, 0, 0);
        }
        CHECK.same("number", kind == 6 ? Sketch.group(d, 0, 1) : Sketch.twice(d, 0, 5, 5), 22);
        return d;
    }

    private static void promise2Name22IsTheLastThatCanBeThere() {
        int[][] calls = {
            {1, 22, 0, 0}, {2, 22, 1, 1}, {3, 22, 1, 1}, {4, 22, 1, 0}, {5, 22, 1, 0},
            {6, 22, 1, 0}, {6, 1, 22, 0}, {8, 22, 1, 1}, {9, 22, 1, 1}, {9, 1, 22, 1},
        };
        for (int[] v : calls) {
            CHECK.same("kind " + v[0] + " with name 22", withObject22(8).commit(v[0], v[1], v[2], v[3], 0), 23);
        }
        AmendedDrawing group = withObject22(6);
        CHECK.same("UNGROUP 22", Sketch.ungroup(group, 22), 23);
        CHECK.text("order", Sketch.order(group), "0 1");
        AmendedDrawing last = withObject22(8);
        CHECK.same("the last action makes one", Sketch.make(last, 1, 0, 0, 1, 1), 23);
        CHECK.text("order", Sketch.order(last), "0 22 1 23");
        CHECK.same("hit", last.hit(0, 0), 23);
    }

    private static void promise2Name23IsAnArgumentButNeverThere() {
        int[][] calls = {
            {1, 23, 0, 0}, {2, 23, 1, 1}, {3, 23, 1, 1}, {4, 23, 1, 0}, {5, 23, 1, 0}, {6, 23, 1, 0},
            {6, 1, 23, 0}, {7, 23, 0, 0}, {8, 23, 1, 1}, {9, 23, 1, 1}, {9, 1, 23, 1},
        };
        for (int[] v : calls) {
            AmendedDrawing d = withObject22(8);
            CHECK.fails("kind " + v[0] + " with name 23", STATE, () -> d.commit(v[0], v[1], v[2], v[3], 0));
        }
        AmendedDrawing d = withObject22(8);
        Sketch.make(d, 1, 0, 0, 1, 1);
        CHECK.same("amend an earlier one to name 23", d.amend(5, 0, 23), 0);
        CHECK.same("effect: 23 is not there yet at its turn", d.effect(5), 2);
    }

    /** "with the first arguments that its kind has (others don't count)". */
    private static void promise2OtherArgumentsDontCount() {
        for (int kind = 1; kind <= 9; kind++) {
            for (int other : new int[] {MIN, -1, 1, 200, MAX}) {
                AmendedDrawing plain = allKinds();
                AmendedDrawing more = allKinds();
                plain.undo();
                more.undo();
                int[] v = changed(kind, 0, kind == 1 ? 8 : 0);
                if (kind == 7) {
                    v[0] = Sketch.group(plain, 0, 1);
                    Sketch.group(more, 0, 1);
                }
                commit(plain, kind, v);
                for (int i = ARGUMENTS[kind]; i < 4; i++) {
                    v[i] = other;
                }
                commit(more, kind, v);
                CHECK.text("behind " + call(kind, v), Watch.state(more), Watch.state(plain));
            }
        }
    }

    private static void promise5EachArgumentFromLeastToGreatest() {
        for (int[] range : RANGES) {
            amended(range[0], range[1], range[2]);
            amended(range[0], range[1], range[3]);
            notAmended(range[0], range[1], range[2] - 1);
            notAmended(range[0], range[1], range[3] + 1);
        }
    }

    private static void promise5FarNumbersAreNoArguments() {
        for (int[] range : RANGES) {
            notAmended(range[0], range[1], MIN);
            notAmended(range[0], range[1], MAX);
        }
    }

    private static void promise5Sizes() {
        for (int size : SIZES) {
            amended(0, 3, size);
        }
        for (int size : NO_SIZES) {
            notAmended(0, 3, size);
        }
    }

    /** "IllegalArgumentException when its kind has no such argument": from 0, so the first beyond is their number. */
    private static void promise5KindHasNoSuchArgument() {
        for (int kind = 0; kind <= 9; kind++) {
            for (int i = ARGUMENTS[kind]; i <= 5; i++) {
                notAmended(kind, i, 0);
                notAmended(kind, i, 1);
            }
            notAmended(kind, -1, 1);
            notAmended(kind, MIN, 1);
            notAmended(kind, MAX, 1);
        }
    }
}
