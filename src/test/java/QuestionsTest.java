/** Promises 8 to 17: the calls that ask and change nothing. */
public final class QuestionsTest {
    private static final Check CHECK = new Check();
    private static final int NONE = AmendedDrawing.NONE;
    private static final Class<IllegalArgumentException> ARGUMENT = IllegalArgumentException.class;
    private static final Class<IndexOutOfBoundsException> INDEX = IndexOutOfBoundsException.class;
    private static final int MIN = Integer.MIN_VALUE;
    private static final int MAX = Integer.MAX_VALUE;

    public static void main(String[] args) {
        promise8Actions();
        promise9Argument();
        promise10Effect();
        promise11Needed();
        promise11NeededByWhatComesBack();
        promise12Needs();
        promise12NeedsOfTwoKinds();
        promise13Objects();
        promise14Object();
        promise15HitRectangle();
        promise15HitEllipse();
        promise15HitDiamond();
        promise15HitLatest();
        promise16Shown();
        promise16ShownFarAway();
        promise17Inside();
        CHECK.end("QuestionsTest");
    }

    private static void promise8Actions() {
        AmendedDrawing d = Sketch.squares(3);
        CHECK.same("actions", d.actions(), 3);
        d.withdraw(1);
        CHECK.same("actions, a withdrawn one counted", d.actions(), 3);
        d.undo();
        d.undo();
        CHECK.same("actions behind an undone commit", d.actions(), 2);
        d.redo();
        CHECK.same("actions when it is done again", d.actions(), 3);
    }

    private static void promise9Argument() {
        AmendedDrawing d = new AmendedDrawing();
        d.commit(0, 2, -7, 9, 647);
        d.commit(4, 0, 6, 55, 66);
        int[][] want = {{2, -7, 9, 647, 0}, {0, 6, 0, 0, 4}};
        for (int n = 0; n < 2; n++) {
            for (int i = 0; i <= 4; i++) {
                CHECK.same("argument(" + n + ", " + i + ")", d.argument(n, i), want[n][i]);
            }
        }
        d.withdraw(1);
        CHECK.same("argument of a withdrawn one", d.argument(1, 1), 6);
        int delete = d.commit(1, 0, 11, 22, 33);
        for (int i = 1; i <= 3; i++) {
            CHECK.same("argument that delete does not have", d.argument(delete, i), 0);
        }
        d.undo();
        for (int i : new int[] {-1, 5, MIN, MAX}) {
            CHECK.fails("argument(0, " + i + ")", INDEX, () -> d.argument(0, i));
        }
        for (int n : new int[] {-1, 2, 24, MIN, MAX}) {
            CHECK.fails("argument(" + n + ", 0)", INDEX, () -> d.argument(n, 0));
        }
    }

    private static void promise10Effect() {
        AmendedDrawing d = Sketch.squares(1);
        Sketch.paint(d, 0, 1);
        CHECK.same("done", d.effect(1), 1);
        d.withdraw(0);
        CHECK.same("withdrawn", d.effect(0), 0);
        CHECK.same("without effect", d.effect(1), 2);
        d.withdraw(1);
        CHECK.same("withdrawn", d.effect(1), 0);
        for (int n : new int[] {-1, 2, 24, MIN, MAX}) {
            CHECK.fails("effect(" + n + ")", INDEX, () -> d.effect(n));
        }
    }

    private static void promise11Needed() {
        AmendedDrawing d = Sketch.squares(3);
        int both = Sketch.group(d, 0, 1);
        Sketch.paint(d, 2, 1);
        int move = Sketch.move(d, both, 1, 1);
        CHECK.same("needed(1, 0)", d.needed(1, 0), both);
        CHECK.same("needed(1, 1)", d.needed(1, 1), move);
        CHECK.same("needed(1, 2)", d.needed(1, 2), NONE);
        CHECK.same("needed(both, 0)", d.needed(both, 0), move);
        CHECK.same("needed(move, 0)", d.needed(move, 0), NONE);
        for (int i : new int[] {-1, MIN, MAX}) {
            CHECK.same("needed(1, " + i + ")", d.needed(1, i), NONE);
        }
        for (int n : new int[] {-1, 6, 24, MIN, MAX}) {
            CHECK.fails("needed(" + n + ", 0)", INDEX, () -> d.needed(n, 0));
        }
        CHECK.same("asking changes nothing", d.effect(1), 1);
        CHECK.same("asking changes nothing", d.objects(), 4);
        d.withdraw(move);
        CHECK.same("a withdrawn one needs nothing", d.needed(1, 1), NONE);
    }

    private static void promise11NeededByWhatComesBack() {
        AmendedDrawing d = Sketch.squares(2);
        int delete = Sketch.delete(d, 0);
        d.withdraw(delete);
        int paint = Sketch.paint(d, 0, 1);
        CHECK.same("the delete would spoil the paint", d.needed(delete, 0), paint);
        d.reinstate(delete);
        CHECK.same("without it the paint would be done", d.needed(delete, 0), paint);
        CHECK.same("effect", d.effect(paint), 2);
        d.withdraw(0);
        CHECK.same("back it would give the delete an effect", d.needed(0, 0), delete);
        CHECK.same("but not the paint", d.needed(0, 1), NONE);
    }

    private static void promise12Needs() {
        AmendedDrawing d = Sketch.squares(3);
        int both = Sketch.group(d, 0, 1);
        int paint = Sketch.paint(d, 2, 1);
        int move = Sketch.move(d, both, 1, 1);
        CHECK.same("needs(move, 0)", d.needs(move, 0), 0);
        CHECK.same("needs(move, 1)", d.needs(move, 1), 1);
        CHECK.same("needs(move, 2)", d.needs(move, 2), both);
        CHECK.same("needs(move, 3)", d.needs(move, 3), NONE);
        CHECK.same("needs(paint, 0)", d.needs(paint, 0), 2);
        CHECK.same("needs(paint, 1)", d.needs(paint, 1), NONE);
        CHECK.same("needs(0, 0)", d.needs(0, 0), NONE);
        for (int i : new int[] {-1, MIN, MAX}) {
            CHECK.same("needs(move, " + i + ")", d.needs(move, i), NONE);
        }
        for (int n : new int[] {-1, 6, 24, MIN, MAX}) {
            CHECK.fails("needs(" + n + ", 0)", INDEX, () -> d.needs(n, 0));
        }
        CHECK.same("asking changes nothing", d.objects(), 4);
        d.withdraw(move);
        CHECK.same("a withdrawn one needs nothing", d.needs(move, 0), NONE);
        d.reinstate(move);
        d.withdraw(0);
        CHECK.same("one without effect: what would bring it back", d.needs(move, 0), 0);
        CHECK.same("needs(move, 1) then", d.needs(move, 1), NONE);
    }

    private static void promise12NeedsOfTwoKinds() {
        AmendedDrawing d = Sketch.squares(12);
        d.withdraw(11);
        int twice = Sketch.twice(d, 4, 0, 20);
        CHECK.same("what it is about", d.needs(twice, 0), 4);
        CHECK.same("what would take its room", d.needs(twice, 1), 11);
        CHECK.same("no more", d.needs(twice, 2), NONE);
    }

    private static void promise13Objects() {
        AmendedDrawing d = Sketch.squares(2);
        CHECK.same("objects", d.objects(), 2);
        Sketch.group(d, 0, 1);
        CHECK.same("objects, the group counted", d.objects(), 3);
        d.withdraw(1);
        CHECK.same("objects", d.objects(), 1);
        d.withdraw(0);
        CHECK.same("objects", d.objects(), 0);
    }

    private static void promise14Object() {
        AmendedDrawing d = new AmendedDrawing();
        Sketch.make(d, Sketch.ELLIPSE, -20, 30, 5, 6);
        Sketch.make(d, Sketch.DIAMOND, 40, -50, 7, 8);
        Sketch.paint(d, 1, 4);
        Sketch.group(d, 1, 0);
        int[][] want = {
            {3, 3, -20, -50, 67, 86, NONE, NONE},
            {0, 1, -20, 30, 5, 6, 0, 3},
            {1, 2, 40, -50, 7, 8, 4, 3},
        };
        for (int k = 0; k < want.length; k++) {
            for (int what = 0; what <= 7; what++) {
                CHECK.same("object(" + k + ", " + what + ")", d.object(k, what), want[k][what]);
            }
        }
        for (int what : new int[] {-1, 8, MIN, MAX}) {
            CHECK.fails("object(0, " + what + ")", INDEX, () -> d.object(0, what));
        }
        for (int k : new int[] {-1, 3, 12, 24, MIN, MAX}) {
            CHECK.fails("object(" + k + ", 0)", INDEX, () -> d.object(k, 0));
        }
    }

    private static void promise15HitRectangle() {
        AmendedDrawing d = new AmendedDrawing();
        Sketch.make(d, Sketch.RECTANGLE, -2, 3, 4, 2);
        CHECK.same("left top", d.hit(-2, 3), 0);
        CHECK.same("right lower", d.hit(1, 4), 0);
        CHECK.same("left of it", d.hit(-3, 3), NONE);
        CHECK.same("right of it", d.hit(2, 3), NONE);
        CHECK.same("above it", d.hit(0, 2), NONE);
        CHECK.same("below it", d.hit(0, 5), NONE);
        for (int far : new int[] {MIN, MAX}) {
            CHECK.same("far x", d.hit(far, 3), NONE);
            CHECK.same("far y", d.hit(0, far), NONE);
        }
    }

    private static void drawn(AmendedDrawing d, int left, int top, String... lines) {
        for (int y = 0; y < lines.length; y++) {
            for (int x = 0; x < lines[y].length(); x++) {
                int want = lines[y].charAt(x) == '#' ? 0 : NONE;
                CHECK.same("hit(" + (left + x) + ", " + (top + y) + ")", d.hit(left + x, top + y), want);
            }
        }
    }

    private static void promise15HitEllipse() {
        AmendedDrawing d = new AmendedDrawing();
        Sketch.make(d, Sketch.ELLIPSE, -3, 5, 8, 6);
        drawn(d, -3, 5,
                "..####..",
                ".######.",
                "########",
                "########",
                ".######.",
                "..####..");
        AmendedDrawing small = new AmendedDrawing();
        Sketch.make(small, Sketch.ELLIPSE, 0, 0, 1, 1);
        drawn(small, -1, -1, "...", ".#.", "...");
    }

    private static void promise15HitDiamond() {
        AmendedDrawing d = new AmendedDrawing();
        Sketch.make(d, Sketch.DIAMOND, -3, 5, 7, 5);
        drawn(d, -3, 5,
                "...#...",
                ".#####.",
                "#######",
                ".#####.",
                "...#...");
        AmendedDrawing even = new AmendedDrawing();
        Sketch.make(even, Sketch.DIAMOND, 0, 0, 4, 4);
        drawn(even, 0, 0, ".##.", "####", "####", ".##.");
    }

    private static void promise15HitLatest() {
        AmendedDrawing d = new AmendedDrawing();
        Sketch.make(d, Sketch.RECTANGLE, 0, 0, 10, 10);
        Sketch.make(d, Sketch.RECTANGLE, 0, 0, 10, 10);
        Sketch.make(d, Sketch.RECTANGLE, 5, 0, 10, 10);
        CHECK.same("the latest of two", d.hit(1, 1), 1);
        CHECK.same("the latest of three", d.hit(7, 1), 2);
        Sketch.group(d, 0, 2);
        CHECK.same("a shape in a group, not the group", d.hit(1, 1), 0);
        Sketch.raise(d, 3, 0);
        CHECK.same("behind a raise", d.hit(7, 1), 1);
        CHECK.same("only the third covers it", d.hit(12, 1), 2);

        AmendedDrawing apart = Sketch.squares(2);
        Sketch.group(apart, 0, 1);
        CHECK.same("in the group's box, but in no shape", apart.hit(-175, 5), NONE);
    }

    private static void promise16Shown() {
        AmendedDrawing d = new AmendedDrawing();
        Sketch.make(d, Sketch.RECTANGLE, 0, 0, 3, 2);
        Sketch.make(d, Sketch.RECTANGLE, 2, 1, 3, 3);
        Sketch.paint(d, 1, 6);
        CHECK.same("colour 0", d.shown(0, 0, 8, 0), 5);
        CHECK.same("colour 6", d.shown(0, 0, 8, 6), 9);
        CHECK.same("none", d.shown(0, 0, 8, NONE), 50);
        CHECK.same("another colour", d.shown(0, 0, 8, 1), 0);
        CHECK.same("one place", d.shown(2, 1, 1, 6), 1);
        CHECK.same("one place, the colour below", d.shown(2, 1, 1, 0), 0);
        CHECK.same("x and y apart", d.shown(3, 1, 2, 6), 4);
        CHECK.same("x and y apart", d.shown(1, 3, 2, 6), 1);
        CHECK.same("no colour at all", d.shown(0, 0, 8, 8), 0);
        CHECK.same("no colour at all", d.shown(0, 0, 8, -2), 0);
        for (int n : new int[] {0, 9, -1, MIN, MAX}) {
            CHECK.fails("shown with n = " + n, ARGUMENT, () -> d.shown(0, 0, n, 0));
        }
    }

    private static void promise16ShownFarAway() {
        AmendedDrawing d = new AmendedDrawing();
        Sketch.make(d, Sketch.RECTANGLE, -200, -200, 100, 100);
        CHECK.same("far right", d.shown(MAX, MAX, 8, NONE), 64);
        CHECK.same("far left", d.shown(MIN, MIN, 8, NONE), 64);
        CHECK.same("far left", d.shown(MIN, -200, 8, 0), 0);
        CHECK.same("half", d.shown(-204, -200, 8, 0), 32);
    }

    private static void promise17Inside() {
        AmendedDrawing d = Sketch.squares(3);
        CHECK.same("exactly its box", d.inside(-190, 0, -180, 10, 0), 0);
        CHECK.same("left too far right", d.inside(-189, 0, -180, 10, 0), NONE);
        CHECK.same("top too low", d.inside(-190, 1, -180, 10, 0), NONE);
        CHECK.same("right end too early", d.inside(-190, 0, -181, 10, 0), NONE);
        CHECK.same("lower end too early", d.inside(-190, 0, -180, 9, 0), NONE);
        Sketch.group(d, 0, 1);
        Sketch.raise(d, 2, 0);
        int[] all = {2, 0, 1, NONE};
        for (int k = 0; k < all.length; k++) {
            CHECK.same("all, k = " + k, d.inside(MIN, MIN, MAX, MAX, k), all[k]);
        }
        CHECK.same("one of a group alone", d.inside(-175, -5, -155, 15, 0), 1);
        CHECK.same("no more", d.inside(-175, -5, -155, 15, 1), NONE);
        CHECK.same("k below 0", d.inside(MIN, MIN, MAX, MAX, -1), NONE);
        CHECK.same("k far below 0", d.inside(MIN, MIN, MAX, MAX, MIN), NONE);
        CHECK.same("k far above", d.inside(MIN, MIN, MAX, MAX, MAX), NONE);
        CHECK.same("ends the wrong way round", d.inside(MAX, MAX, MIN, MIN, 0), NONE);
        d.withdraw(2);
        CHECK.same("the first when one is withdrawn", d.inside(MIN, MIN, MAX, MAX, 0), 0);
    }
}
