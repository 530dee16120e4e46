import java.util.NoSuchElementException;

/** Promises 1 to 7: a new object, and the calls that change the row of actions. */
public final class EditsTest {
    private static final Check CHECK = new Check();
    private static final Class<IllegalArgumentException> ARGUMENT = IllegalArgumentException.class;
    private static final Class<IllegalStateException> STATE = IllegalStateException.class;
    private static final Class<IndexOutOfBoundsException> INDEX = IndexOutOfBoundsException.class;
    private static final Class<NoSuchElementException> NO_ELEMENT = NoSuchElementException.class;
    private static final int[] FAR = {Integer.MIN_VALUE, -1000000, 1000000, Integer.MAX_VALUE};

    public static void main(String[] args) {
        promise1NewObject();
        promise2Numbers();
        promise2OtherArgumentsDontCount();
        promise2WrongArguments();
        promise2FullRow();
        promise2ThrowingCommitKeepsRedo();
        promise3Withdraw();
        promise3WrongInputs();
        promise4Reinstate();
        promise4WrongInputs();
        promise5Amend();
        promise5WrongInputs();
        promise6Undo();
        promise6Latest32();
        promise6OldEditsStayLost();
        promise7Redo();
        promise7NothingAfterNewEdit();
        promise7ThrowingCallsKeepRedo();
        CHECK.end("EditsTest");
    }

    private static void promise1NewObject() {
        AmendedDrawing d = new AmendedDrawing();
        CHECK.same("actions", d.actions(), 0);
        CHECK.same("objects", d.objects(), 0);
        CHECK.same("hit", d.hit(0, 0), AmendedDrawing.NONE);
        CHECK.fails("undo", NO_ELEMENT, d::undo);
        CHECK.fails("redo", NO_ELEMENT, d::redo);
        CHECK.fails("effect(0)", INDEX, () -> d.effect(0));
        AmendedDrawing other = Sketch.squares(1);
        CHECK.same("actions beside another object", d.actions(), 0);
        CHECK.same("actions of the other", other.actions(), 1);
    }

    private static void promise2Numbers() {
        AmendedDrawing d = new AmendedDrawing();
        CHECK.same("first", Sketch.make(d, 0, 0, 0, 1, 1), 0);
        CHECK.same("second", Sketch.move(d, 0, 1, 1), 1);
        CHECK.fails("without effect", STATE, () -> Sketch.move(d, 1, 1, 1));
        CHECK.same("third, behind one that threw", Sketch.paint(d, 0, 1), 2);
        CHECK.same("actions", d.actions(), 3);
        d.undo();
        CHECK.same("third again, as it was undone", Sketch.paint(d, 0, 2), 2);
    }

    private static void promise2OtherArgumentsDontCount() {
        AmendedDrawing d = Sketch.squares(2);
        for (int far : FAR) {
            CHECK.same("move", d.commit(2, 0, 0, 0, far) >= 0 ? 1 : 0, 1);
            CHECK.same("paint", d.commit(4, 0, 0, far, far) >= 0 ? 1 : 0, 1);
            int n = d.commit(6, 0, 1, far, far);
            CHECK.same("argument that group does not have", d.argument(n, 2), 0);
            CHECK.same("argument that group does not have", d.argument(n, 3), 0);
            CHECK.same("ungroup", d.commit(7, n, far, far, far), n + 1);
        }
    }

    private static void promise2WrongArguments() {
        AmendedDrawing d = Sketch.squares(2);
        wrong(d, -1, 0, 0, 0, 129);
        wrong(d, 10, 0, 0, 0, 129);
        for (int far : FAR) {
            wrong(d, far, 0, 0, 0, 0);
            wrong(d, 0, far, 0, 0, 129);
            wrong(d, 0, 0, far, 0, 129);
            wrong(d, 0, 0, 0, far, 129);
            wrong(d, 0, 0, 0, 0, far);
        }
        wrong(d, 0, -1, 0, 0, 129);
        wrong(d, 0, 3, 0, 0, 129);
        for (int place : new int[] {-201, 201}) {
            wrong(d, 0, 0, place, 0, 129);
            wrong(d, 0, 0, 0, place, 129);
            wrong(d, 2, 0, place, 0, 0);
            wrong(d, 2, 0, 0, place, 0);
            wrong(d, 8, 0, place, 0, 0);
            wrong(d, 8, 0, 0, place, 0);
        }
        for (int size : new int[] {0, 1, 127, 128, 128 + 101, 128 + 127, 101 * 128 + 1, -129, -1, 100 * 128}) {
            wrong(d, 0, 0, 0, 0, size);
        }
        for (int kind = 1; kind <= 9; kind++) {
            wrong(d, kind, -1, 1, 1, 0);
            wrong(d, kind, 24, 1, 1, 0);
        }
        for (int factor : new int[] {0, 10, -1}) {
            wrong(d, 3, 0, factor, 1, 0);
            wrong(d, 3, 0, 1, factor, 0);
        }
        wrong(d, 4, 0, -1, 0, 0);
        wrong(d, 4, 0, 8, 0, 0);
        wrong(d, 5, 0, -1, 0, 0);
        wrong(d, 5, 0, 2, 0, 0);
        wrong(d, 6, 0, -1, 0, 0);
        wrong(d, 6, 0, 24, 0, 0);
        wrong(d, 9, 0, -1, 0, 0);
        wrong(d, 9, 0, 24, 0, 0);
        wrong(d, 9, 0, 1, -1, 0);
        wrong(d, 9, 0, 1, 4, 0);
        CHECK.same("actions", d.actions(), 2);
        CHECK.fails("the last name", STATE, () -> Sketch.delete(d, 23));
        CHECK.fails("wrong argument before what is not there", ARGUMENT, () -> Sketch.paint(d, 23, 8));
    }

    private static void wrong(AmendedDrawing d, int kind, int a, int b, int c, int e) {
        String call = "commit(" + kind + ", " + a + ", " + b + ", " + c + ", " + e + ")";
        CHECK.fails(call, ARGUMENT, () -> d.commit(kind, a, b, c, e));
    }

    private static void promise2FullRow() {
        AmendedDrawing d = Sketch.squares(1);
        for (int n = 1; n < 24; n++) {
            CHECK.same("number", Sketch.paint(d, 0, n % 8), n);
        }
        CHECK.fails("a 25th", STATE, () -> Sketch.paint(d, 0, 0));
        CHECK.fails("a 25th with a wrong argument", ARGUMENT, () -> Sketch.paint(d, 0, 8));
        CHECK.fails("a 25th without a kind", ARGUMENT, () -> d.commit(10, 0, 0, 0, 0));
        d.withdraw(5);
        CHECK.fails("a 25th while one is withdrawn", STATE, () -> Sketch.paint(d, 0, 0));
        CHECK.same("actions", d.actions(), 24);
        d.undo();
        d.undo();
        CHECK.same("a 24th when one was undone", Sketch.paint(d, 0, 0), 23);
    }

    private static void promise2ThrowingCommitKeepsRedo() {
        AmendedDrawing d = Sketch.squares(1);
        Sketch.paint(d, 0, 6);
        d.undo();
        CHECK.fails("without effect", STATE, () -> Sketch.move(d, 5, 1, 1));
        CHECK.fails("wrong", ARGUMENT, () -> Sketch.move(d, 0, 201, 1));
        CHECK.same("redo", d.redo(), 0);
        CHECK.same("kind", d.argument(1, 4), 4);
        CHECK.same("argument", d.argument(1, 1), 6);
        CHECK.same("colour", d.object(0, 6), 6);
    }

    private static void promise3Withdraw() {
        AmendedDrawing d = Sketch.squares(3);
        int both = Sketch.group(d, 0, 1);
        int paint = Sketch.paint(d, both, 3);
        int align = Sketch.align(d, 2, both, 0);
        int move = Sketch.move(d, 2, 1, 1);
        CHECK.same("withdraw what three need", d.withdraw(1), 3);
        CHECK.same("its own effect", d.effect(1), 0);
        CHECK.same("group", d.effect(both), 2);
        CHECK.same("paint", d.effect(paint), 2);
        CHECK.same("align", d.effect(align), 2);
        CHECK.same("move", d.effect(move), 1);
        CHECK.same("objects", d.objects(), 2);
        CHECK.same("withdraw what none needs", d.withdraw(move), 0);
        CHECK.same("withdraw one without effect", d.withdraw(both), 0);
        CHECK.same("withdraw one that others with no effect name", d.withdraw(0), 0);
        CHECK.same("actions", d.actions(), 7);

        AmendedDrawing full = Sketch.squares(12);
        full.withdraw(0);
        Sketch.twice(full, 1, 0, 5);
        full.reinstate(0);
        CHECK.same("effect of the 13th", full.effect(12), 2);
        CHECK.same("room for the 13th again", full.withdraw(3), 1);
        CHECK.same("effect of the 13th", full.effect(12), 1);
    }

    private static void promise3WrongInputs() {
        AmendedDrawing d = Sketch.squares(2);
        for (int n : new int[] {-1, 2, 23, 24, Integer.MIN_VALUE, Integer.MAX_VALUE}) {
            CHECK.fails("withdraw(" + n + ")", INDEX, () -> d.withdraw(n));
        }
        d.withdraw(1);
        CHECK.fails("withdraw again", STATE, () -> d.withdraw(1));
        CHECK.same("undo of the one withdraw", d.undo(), 1);
        CHECK.same("undo of the commit", d.undo(), 0);
        CHECK.fails("withdraw one whose commit was undone", INDEX, () -> d.withdraw(1));
    }

    private static void promise4Reinstate() {
        AmendedDrawing d = Sketch.squares(2);
        int both = Sketch.group(d, 0, 1);
        int move = Sketch.move(d, both, 5, 5);
        d.withdraw(0);
        CHECK.same("reinstate", d.reinstate(0), 2);
        CHECK.same("effect", d.effect(0), 1);
        CHECK.same("effect", d.effect(move), 1);
        CHECK.same("box of the group", d.object(0, 2), -185);
        d.withdraw(both);
        d.withdraw(0);
        CHECK.same("reinstate into what is without effect", d.reinstate(both), 0);
        CHECK.same("effect of what came back in vain", d.effect(both), 2);
    }

    private static void promise4WrongInputs() {
        AmendedDrawing d = Sketch.squares(2);
        for (int n : new int[] {-1, 2, 24, Integer.MIN_VALUE, Integer.MAX_VALUE}) {
            CHECK.fails("reinstate(" + n + ")", INDEX, () -> d.reinstate(n));
        }
        CHECK.fails("reinstate one that is done", STATE, () -> d.reinstate(1));
        Sketch.paint(d, 1, 1);
        d.withdraw(1);
        CHECK.fails("reinstate one without effect", STATE, () -> d.reinstate(2));
        d.reinstate(1);
        CHECK.fails("reinstate again", STATE, () -> d.reinstate(1));
    }

    private static void promise5Amend() {
        AmendedDrawing d = Sketch.squares(2);
        int paint = Sketch.paint(d, 0, 3);
        CHECK.same("amend", d.amend(paint, 1, 5), 3);
        CHECK.same("colour", d.object(0, 6), 5);
        CHECK.same("amend to another name", d.amend(paint, 0, 1), 0);
        CHECK.same("colour", d.object(0, 6), 0);
        CHECK.same("colour", d.object(1, 6), 5);
        CHECK.same("amend to what is not there", d.amend(paint, 0, 23), 1);
        CHECK.same("effect", d.effect(paint), 2);
        CHECK.same("amend to its own number", d.amend(paint, 0, paint), 23);
        CHECK.same("effect", d.effect(paint), 2);
        d.withdraw(paint);
        CHECK.same("amend while it is withdrawn", d.amend(paint, 0, 0), paint);
        CHECK.same("effect", d.effect(paint), 0);
        d.reinstate(paint);
        CHECK.same("colour", d.object(0, 6), 5);
        CHECK.same("amend to beyond the limits", d.amend(1, 1, 200), -170);
        CHECK.same("effect", d.effect(1), 2);
        CHECK.same("objects", d.objects(), 1);
        CHECK.same("amend to the same", d.amend(paint, 1, 5), 5);
        CHECK.same("that is an edit", d.undo(), 3);
        CHECK.same("argument", d.argument(paint, 1), 5);
    }

    private static void promise5WrongInputs() {
        AmendedDrawing d = Sketch.squares(2);
        Sketch.group(d, 0, 1);
        Sketch.scale(d, 2, 1, 2);
        CHECK.fails("amend(-1, 0, 0)", INDEX, () -> d.amend(-1, 0, 0));
        CHECK.fails("amend(4, 9, 999)", INDEX, () -> d.amend(4, 9, 999));
        CHECK.fails("amend(4, 0, 0)", INDEX, () -> d.amend(4, 0, 0));
        for (int i : new int[] {-1, 4, 5, Integer.MIN_VALUE, Integer.MAX_VALUE}) {
            CHECK.fails("amend(0, " + i + ", 1)", ARGUMENT, () -> d.amend(0, i, 1));
        }
        CHECK.fails("a third argument of group", ARGUMENT, () -> d.amend(2, 2, 0));
        CHECK.fails("a fourth argument of scale", ARGUMENT, () -> d.amend(3, 3, 0));
        CHECK.fails("shape 3", ARGUMENT, () -> d.amend(0, 0, 3));
        CHECK.fails("x of 201", ARGUMENT, () -> d.amend(0, 1, 201));
        CHECK.fails("y of -201", ARGUMENT, () -> d.amend(0, 2, -201));
        CHECK.fails("width 0", ARGUMENT, () -> d.amend(0, 3, 256));
        CHECK.fails("name 24", ARGUMENT, () -> d.amend(2, 1, 24));
        CHECK.fails("name -1", ARGUMENT, () -> d.amend(2, 0, -1));
        CHECK.fails("factor 0", ARGUMENT, () -> d.amend(3, 2, 0));
        CHECK.fails("factor 10", ARGUMENT, () -> d.amend(3, 1, 10));
        CHECK.same("nothing of that was an edit", d.undo(), 0);
    }

    private static void promise6Undo() {
        AmendedDrawing d = Sketch.squares(2);
        Sketch.group(d, 0, 1);
        d.amend(0, 1, 100);
        d.withdraw(1);
        d.reinstate(1);
        CHECK.same("undo reinstate", d.undo(), 2);
        CHECK.same("effect", d.effect(1), 0);
        CHECK.same("effect", d.effect(2), 2);
        CHECK.same("undo withdraw", d.undo(), 1);
        CHECK.same("effect", d.effect(2), 1);
        CHECK.same("undo amend", d.undo(), 3);
        CHECK.same("argument", d.argument(0, 1), -190);
        CHECK.same("left", d.object(0, 2), -190);
        CHECK.same("undo commit", d.undo(), 0);
        CHECK.same("actions", d.actions(), 2);
        CHECK.same("objects", d.objects(), 2);
        CHECK.fails("what was undone", INDEX, () -> d.argument(2, 0));
        d.undo();
        d.undo();
        CHECK.same("objects", d.objects(), 0);
        CHECK.fails("undo", NO_ELEMENT, d::undo);
    }

    private static void promise6Latest32() {
        AmendedDrawing d = Sketch.squares(1);
        for (int k = 1; k <= 40; k++) {
            d.amend(0, 1, k);
        }
        for (int k = 39; k >= 8; k--) {
            CHECK.same("undo", d.undo(), 3);
            CHECK.same("left", d.object(0, 2), k);
        }
        CHECK.fails("a 33rd undo", NO_ELEMENT, d::undo);
        CHECK.same("left", d.object(0, 2), 8);
        for (int k = 9; k <= 40; k++) {
            CHECK.same("redo", d.redo(), 3);
            CHECK.same("left", d.object(0, 2), k);
        }
        CHECK.fails("a 33rd redo", NO_ELEMENT, d::redo);
        CHECK.same("undo of what was done again", d.undo(), 3);
        CHECK.same("left", d.object(0, 2), 39);
    }

    /** "The latest 32 can be undone": what fell out of them does not come back when some are undone and one is new. */
    private static void promise6OldEditsStayLost() {
        AmendedDrawing d = Sketch.squares(1);
        for (int k = 1; k <= 40; k++) {
            d.amend(0, 1, k);
        }
        for (int k = 0; k < 31; k++) {
            d.undo();
        }
        d.amend(0, 1, 100);
        CHECK.same("undo of the new edit", d.undo(), 3);
        CHECK.same("left", d.object(0, 2), 9);
        CHECK.same("undo of the oldest that is left", d.undo(), 3);
        CHECK.same("left", d.object(0, 2), 8);
        CHECK.fails("undo of one before the latest 32", NO_ELEMENT, d::undo);
    }

    private static void promise7Redo() {
        AmendedDrawing d = Sketch.squares(2);
        Sketch.group(d, 1, 0);
        d.amend(2, 0, 5);
        d.withdraw(0);
        d.reinstate(0);
        for (int k = 0; k < 6; k++) {
            d.undo();
        }
        CHECK.same("actions", d.actions(), 0);
        CHECK.same("redo commit", d.redo(), 0);
        CHECK.same("redo commit", d.redo(), 0);
        CHECK.same("left", d.object(1, 2), -170);
        CHECK.same("redo commit", d.redo(), 0);
        CHECK.same("effect", d.effect(2), 1);
        CHECK.same("argument", d.argument(2, 0), 1);
        CHECK.same("redo amend", d.redo(), 3);
        CHECK.same("argument", d.argument(2, 0), 5);
        CHECK.same("effect", d.effect(2), 2);
        CHECK.same("redo withdraw", d.redo(), 1);
        CHECK.same("effect", d.effect(0), 0);
        CHECK.same("redo reinstate", d.redo(), 2);
        CHECK.same("effect", d.effect(0), 1);
        CHECK.fails("redo", NO_ELEMENT, d::redo);
    }

    private static void promise7NothingAfterNewEdit() {
        for (int edit = 0; edit < 4; edit++) {
            AmendedDrawing d = Sketch.squares(2);
            d.withdraw(0);
            Sketch.paint(d, 1, 1);
            d.undo();
            switch (edit) {
                case 0 -> Sketch.paint(d, 1, 2);
                case 1 -> d.withdraw(1);
                case 2 -> d.reinstate(0);
                default -> d.amend(1, 1, -170);
            }
            CHECK.fails("redo behind edit " + edit, NO_ELEMENT, d::redo);
            CHECK.same("undo", d.undo(), edit);
            CHECK.same("redo", d.redo(), edit);
            CHECK.fails("redo of what went before", NO_ELEMENT, d::redo);
        }
    }

    private static void promise7ThrowingCallsKeepRedo() {
        AmendedDrawing d = Sketch.squares(2);
        d.withdraw(0);
        Sketch.paint(d, 1, 1);
        d.undo();
        CHECK.fails("withdraw", STATE, () -> d.withdraw(0));
        CHECK.fails("reinstate", STATE, () -> d.reinstate(1));
        CHECK.fails("amend", ARGUMENT, () -> d.amend(0, 0, 3));
        CHECK.fails("commit", STATE, () -> Sketch.paint(d, 0, 1));
        CHECK.same("needed", d.needed(0, 0), AmendedDrawing.NONE);
        CHECK.same("needs", d.needs(1, 0), AmendedDrawing.NONE);
        CHECK.same("redo", d.redo(), 0);
        CHECK.same("colour", d.object(0, 6), 1);
    }
}
