import java.util.NoSuchElementException;
import java.util.function.Consumer;

/**
 * Promises 6 and 7: "The latest 32 can be undone, one after the other from the latest, and what was undone done
 * again from the one that was undone last; with a new edit nothing can be done again."
 */
public final class HistoryEdgesTest {
    private static final Check CHECK = new Check();
    private static final Class<IllegalStateException> STATE = IllegalStateException.class;
    private static final Class<IllegalArgumentException> ARGUMENT = IllegalArgumentException.class;
    private static final Class<IndexOutOfBoundsException> INDEX = IndexOutOfBoundsException.class;
    private static final Class<NoSuchElementException> NO_ELEMENT = NoSuchElementException.class;

    public static void main(String[] args) {
        promise6None();
        promise6Up31To33Edits();
        promise6EachKindAsTheOldest();
        promise6EachKindJustLost();
        promise6TellsAndUndoesEachKind();
        promise6OfAFullRow();
        promise6WhatIsNoEdit();
        promise6LongPast();
        promise7None();
        promise7FromTheOneUndoneLast();
        promise7All32();
        promise7NothingBehindANewEdit();
        promise7BehindARefusedCall();
        promise7BringsBackTheWholeAction();
        promise7OfAFullRow();
        promise7BackAndForth();
        theLastOf512Calls();
        CHECK.end("HistoryEdgesTest");
    }

    /** A rectangle whose left was amended so many times, to 1, 2 and so on. */
    private static AmendedDrawing amended(int times) {
        AmendedDrawing d = Sketch.squares(1);
        for (int k = 1; k <= times; k++) {
            d.amend(0, 1, k);
        }
        return d;
    }

    /** "NoSuchElementException when there is none": at first, and when all was undone. */
    private static void promise6None() {
        Watch.refused(CHECK, "undo of nothing", NO_ELEMENT, AmendedDrawing::new, AmendedDrawing::undo);
        AmendedDrawing d = Sketch.squares(1);
        CHECK.same("undo", d.undo(), 0);
        CHECK.fails("undo when all was undone", NO_ELEMENT, d::undo);
        CHECK.fails("undo once more", NO_ELEMENT, d::undo);
        CHECK.same("redo is still there", d.redo(), 0);
        CHECK.same("actions", d.actions(), 1);
        Watch.refused(CHECK, "a 33rd undo", NO_ELEMENT, HistoryEdgesTest::undone32, AmendedDrawing::undo);
    }

    private static AmendedDrawing undone32() {
        AmendedDrawing d = amended(40);
        for (int k = 0; k < 32; k++) {
            d.undo();
        }
        return d;
    }

    private static void promise6Up31To33Edits() {
        AmendedDrawing just31 = amended(30);
        CHECK.text("undone of 31", Watch.undone(just31), "3".repeat(30) + "0");
        CHECK.same("actions", just31.actions(), 0);
        AmendedDrawing just32 = amended(31);
        CHECK.text("undone of 32", Watch.undone(just32), "3".repeat(31) + "0");
        CHECK.same("actions", just32.actions(), 0);
        AmendedDrawing just33 = amended(32);
        CHECK.text("undone of 33", Watch.undone(just33), "3".repeat(32));
        CHECK.same("actions", just33.actions(), 1);
        CHECK.same("left", just33.object(0, 2), -190);
        AmendedDrawing just34 = amended(33);
        CHECK.text("undone of 34", Watch.undone(just34), "3".repeat(32));
        CHECK.same("left", just34.object(0, 2), 1);
    }

    private static void edit(AmendedDrawing d, int kind) {
        switch (kind) {
            case 0 -> Sketch.paint(d, 0, 5);
            case 1 -> d.withdraw(1);
            case 2 -> d.reinstate(2);
            default -> d.amend(0, 2, 44);
        }
    }

    /** One of each shape, the last one withdrawn: each kind of edit can be next. */
    private static AmendedDrawing ready() {
        AmendedDrawing d = Sketch.squares(1);
        Sketch.make(d, Sketch.ELLIPSE, -170, 1, 11, 12);
        Sketch.make(d, Sketch.DIAMOND, -150, 2, 13, 14);
        d.withdraw(2);
        return d;
    }

    private static AmendedDrawing editedAndThen(int kind, int amends) {
        AmendedDrawing d = ready();
        edit(d, kind);
        for (int k = 1; k <= amends; k++) {
            d.amend(0, 1, k);
        }
        return d;
    }

    private static void promise6EachKindAsTheOldest() {
        for (int kind = 0; kind <= 3; kind++) {
            AmendedDrawing d = editedAndThen(kind, 31);
            CHECK.text("undone", Watch.undone(d), "3".repeat(31) + kind);
            CHECK.text("state before edit " + kind, Watch.state(d), Watch.state(ready()));
        }
    }

    private static void promise6EachKindJustLost() {
        for (int kind = 0; kind <= 3; kind++) {
            AmendedDrawing d = editedAndThen(kind, 32);
            CHECK.text("undone", Watch.undone(d), "3".repeat(32));
            CHECK.text("state behind edit " + kind, Watch.state(d), Watch.state(editedAndThen(kind, 0)));
        }
    }

    /** "0 a commit (the action is gone), 1 withdraw, 2 reinstate, 3 amend". */
    private static void promise6TellsAndUndoesEachKind() {
        for (int kind = 0; kind <= 3; kind++) {
            AmendedDrawing d = ready();
            edit(d, kind);
            CHECK.same("undo", d.undo(), kind);
            CHECK.text("state behind undo of " + kind, Watch.state(d), Watch.state(ready()));
            CHECK.same("redo", d.redo(), kind);
            CHECK.text("state behind redo of " + kind, Watch.state(d), Watch.state(editedAndThen(kind, 0)));
        }
        AmendedDrawing gone = ready();
        edit(gone, 0);
        gone.undo();
        CHECK.fails("the action is gone: effect", INDEX, () -> gone.effect(3));
        CHECK.fails("the action is gone: argument", INDEX, () -> gone.argument(3, 0));
        CHECK.fails("the action is gone: withdraw", INDEX, () -> gone.withdraw(3));
        CHECK.fails("the action is gone: amend", INDEX, () -> gone.amend(3, 0, 0));
    }

    private static void promise6OfAFullRow() {
        AmendedDrawing d = Sketch.fullRow();
        CHECK.text("undone of 24 commits", Watch.undone(d), "0".repeat(24));
        CHECK.same("actions", d.actions(), 0);
        CHECK.same("objects", d.objects(), 0);
    }

    /** "EDITS are commit, withdraw, reinstate and amend (those that don't throw)": no question is, nor undo or redo. */
    private static void promise6WhatIsNoEdit() {
        AmendedDrawing d = amended(31);
        d.undo();
        d.redo();
        d.needed(0, 0);
        d.needs(0, 0);
        d.shown(0, 0, 1, 0);
        d.inside(0, 0, 1, 1, 0);
        CHECK.fails("withdraw", INDEX, () -> d.withdraw(1));
        CHECK.fails("reinstate", STATE, () -> d.reinstate(0));
        CHECK.fails("amend", ARGUMENT, () -> d.amend(0, 1, 201));
        CHECK.fails("commit", STATE, () -> Sketch.paint(d, 1, 1));
        CHECK.fails("commit", ARGUMENT, () -> Sketch.paint(d, 0, 8));
        CHECK.fails("redo", NO_ELEMENT, d::redo);
        CHECK.text("undone: none of the 32 was lost", Watch.undone(d), "3".repeat(31) + "0");
    }

    /** 100 edits, and in between some undone: the latest 32 of those that stand, in whatever turn they came. */
    private static void promise6LongPast() {
        AmendedDrawing d = amended(100);
        for (int k = 99; k >= 90; k--) {
            CHECK.same("undo", d.undo(), 3);
            CHECK.same("left", d.object(0, 2), k);
        }
        for (int k = 101; k <= 122; k++) {
            d.amend(0, 1, k);
        }
        for (int k = 121; k >= 101; k--) {
            d.undo();
            CHECK.same("left", d.object(0, 2), k);
        }
        d.undo();
        CHECK.same("left before the new edits", d.object(0, 2), 90);
        for (int k = 89; k >= 80; k--) {
            CHECK.same("undo", d.undo(), 3);
            CHECK.same("left", d.object(0, 2), k);
        }
    }

    /** "NoSuchElementException when there is none": at first, when nothing was undone, and when all was done again. */
    private static void promise7None() {
        Watch.refused(CHECK, "redo of nothing", NO_ELEMENT, AmendedDrawing::new, AmendedDrawing::redo);
        Watch.refused(CHECK, "redo when nothing was undone", NO_ELEMENT, HistoryEdgesTest::ready,
                AmendedDrawing::redo);
        Watch.refused(CHECK, "redo when all was done again", NO_ELEMENT, HistoryEdgesTest::undoneAndRedone,
                AmendedDrawing::redo);
    }

    private static AmendedDrawing undoneAndRedone() {
        AmendedDrawing d = Sketch.busy();
        d.redo();
        d.redo();
        return d;
    }

    private static void promise7FromTheOneUndoneLast() {
        AmendedDrawing d = ready();
        edit(d, 1);
        edit(d, 3);
        edit(d, 2);
        edit(d, 0);
        CHECK.text("undone", Watch.undone(d), "0231" + "1000");
        CHECK.text("redone", Watch.redone(d), "0001" + "1320");
        CHECK.same("colour", Sketch.colour(d, 0), 5);
        CHECK.same("effect of what was withdrawn", d.effect(1), 0);
        CHECK.same("effect of what came back", d.effect(2), 1);
        CHECK.same("argument of what was amended", d.argument(0, 2), 44);
    }

    private static void promise7All32() {
        AmendedDrawing d = amended(40);
        CHECK.text("undone", Watch.undone(d), "3".repeat(32));
        CHECK.same("left", d.object(0, 2), 8);
        CHECK.text("redone", Watch.redone(d), "3".repeat(32));
        CHECK.same("left", d.object(0, 2), 40);
        CHECK.text("undone again", Watch.undone(d), "3".repeat(32));
        CHECK.same("left", d.object(0, 2), 8);
    }

    /** "with a new edit nothing can be done again", of whichever kind it is, and whatever it was that was undone. */
    private static void promise7NothingBehindANewEdit() {
        for (int kind = 0; kind <= 3; kind++) {
            for (int before = 0; before <= 3; before++) {
                AmendedDrawing d = ready();
                edit(d, before);
                d.undo();
                edit(d, kind);
                CHECK.fails("redo of " + before + " behind " + kind, NO_ELEMENT, d::redo);
                CHECK.text("undone", Watch.undone(d), kind + "1000");
                CHECK.text("redone", Watch.redone(d), "0001" + kind);
                CHECK.text("state", Watch.state(d), Watch.state(editedAndThen(kind, 0)));
            }
        }
    }

    private static void promise7BehindARefusedCall() {
        refusedThenRedone("withdraw", STATE, d -> d.withdraw(1));
        refusedThenRedone("withdraw", INDEX, d -> d.withdraw(5));
        refusedThenRedone("reinstate", STATE, d -> d.reinstate(0));
        refusedThenRedone("reinstate", INDEX, d -> d.reinstate(5));
        refusedThenRedone("amend", INDEX, d -> d.amend(5, 0, 0));
        refusedThenRedone("amend", ARGUMENT, d -> d.amend(0, 0, 3));
        refusedThenRedone("commit", ARGUMENT, d -> d.commit(4, 0, 8, 0, 0));
        refusedThenRedone("commit", STATE, d -> d.commit(4, 1, 7, 0, 0));
    }

    private static void refusedThenRedone(String what, Class<? extends RuntimeException> due,
            Consumer<AmendedDrawing> call) {
        AmendedDrawing d = Sketch.busy();
        CHECK.fails(what, due, () -> call.accept(d));
        CHECK.text("redone behind " + what, Watch.redone(d), "03");
        CHECK.text("state behind " + what, Watch.state(d), Watch.state(undoneAndRedone()));
    }

    /** An action that was committed, amended and withdrawn, all undone and done again. */
    private static void promise7BringsBackTheWholeAction() {
        AmendedDrawing d = Sketch.squares(1);
        Sketch.twice(d, 0, -10, 30);
        d.amend(1, 2, 40);
        d.withdraw(1);
        String before = Watch.state(d);
        CHECK.text("undone", Watch.undone(d), "1300");
        CHECK.same("redo", d.redo(), 0);
        CHECK.same("redo", d.redo(), 0);
        CHECK.same("argument as it was committed", d.argument(1, 2), 30);
        CHECK.same("effect", d.effect(1), 1);
        CHECK.same("hit", d.hit(-200, 30), 1);
        CHECK.same("redo", d.redo(), 3);
        CHECK.same("hit", d.hit(-200, 49), 1);
        CHECK.same("redo", d.redo(), 1);
        CHECK.text("state", Watch.state(d), before);
    }

    private static void promise7OfAFullRow() {
        AmendedDrawing d = Sketch.fullRow();
        Watch.undone(d);
        CHECK.text("redone", Watch.redone(d), "0".repeat(24));
        CHECK.text("state", Watch.state(d), Watch.state(Sketch.fullRow()));
    }

    private static void promise7BackAndForth() {
        AmendedDrawing d = amended(2);
        for (int k = 0; k < 40; k++) {
            CHECK.same("undo", d.undo(), 3);
            CHECK.same("left", d.object(0, 2), 1);
            CHECK.same("redo", d.redo(), 3);
            CHECK.same("left", d.object(0, 2), 2);
        }
        CHECK.fails("redo", NO_ELEMENT, d::redo);
        CHECK.text("undone", Watch.undone(d), "330");
    }

    /** "An object is used for at most 512 calls": the 512th still answers, with 24 actions and hundreds of edits. */
    private static void theLastOf512Calls() {
        AmendedDrawing d = Sketch.fullRow();
        int calls = 24;
        while (calls < 512 - 33) {
            int v = calls % 101;
            CHECK.same("amend", d.amend(0, 1, v), calls == 24 ? 0 : (calls - 1) % 101);
            calls++;
        }
        for (int k = 0; k < 32; k++) {
            CHECK.same("undo", d.undo(), 3);
        }
        CHECK.same("left at the 512th call", d.object(0, 2), (512 - 33 - 1 - 32) % 101);
    }
}
