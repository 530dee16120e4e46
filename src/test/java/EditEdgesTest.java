import java.util.NoSuchElementException;

/** The boundary cases of promises 1 to 7: no actions and 24, the latest 32 edits, and every call that is refused. */
public final class EditEdgesTest {
    private static final Check CHECK = new Check();
    private static final Class<IllegalArgumentException> ARGUMENT = IllegalArgumentException.class;
    private static final Class<IllegalStateException> STATE = IllegalStateException.class;
    private static final Class<IndexOutOfBoundsException> INDEX = IndexOutOfBoundsException.class;
    private static final Class<NoSuchElementException> NO_ELEMENT = NoSuchElementException.class;
    private static final int NONE = AmendedDrawing.NONE;
    private static final int MIN = Integer.MIN_VALUE;
    private static final int MAX = Integer.MAX_VALUE;

    public static void main(String[] args) {
        promise1NothingIsThere();
        promise1EveryCallOnNothing();
        promise2From0To23();
        promise2A25th();
        promise2WithoutEffect();
        promise2ArgumentsComeFirst();
        promise2NumberOfAnUndoneCommit();
        promise3NoSuchAction();
        promise3Withdrawn();
        promise3CountsNoneAndAll();
        promise3CountsWhatComesBack();
        promise4NoSuchAction();
        promise4NotWithdrawn();
        promise4CountsNoneAndAll();
        promise4ComesBackWithoutEffect();
        promise5NoSuchAction();
        promise5NoSuchActionComesFirst();
        promise5Withdrawn();
        promise5WithoutEffect();
        promise5TheSame();
        promise5FirstAndLast();
        CHECK.end("EditEdgesTest");
    }

    /** "No actions." */
    private static void promise1NothingIsThere() {
        AmendedDrawing d = new AmendedDrawing();
        CHECK.same("actions", d.actions(), 0);
        CHECK.same("objects", d.objects(), 0);
        CHECK.same("hit", d.hit(0, 0), NONE);
        CHECK.same("shown of none", d.shown(0, 0, 8, NONE), 64);
        CHECK.same("shown of colour 0", d.shown(0, 0, 8, 0), 0);
        CHECK.same("inside", d.inside(MIN, MIN, MAX, MAX, 0), NONE);
    }

    private static void promise1EveryCallOnNothing() {
        for (int n : new int[] {0, -1, 1, 23, 24, MIN, MAX}) {
            Watch.refused(CHECK, "withdraw(" + n + ")", INDEX, AmendedDrawing::new, d -> d.withdraw(n));
            Watch.refused(CHECK, "reinstate(" + n + ")", INDEX, AmendedDrawing::new, d -> d.reinstate(n));
            Watch.refused(CHECK, "amend(" + n + ", 0, 0)", INDEX, AmendedDrawing::new, d -> d.amend(n, 0, 0));
            Watch.refused(CHECK, "argument(" + n + ", 0)", INDEX, AmendedDrawing::new, d -> d.argument(n, 0));
            Watch.refused(CHECK, "effect(" + n + ")", INDEX, AmendedDrawing::new, d -> d.effect(n));
            Watch.refused(CHECK, "needed(" + n + ", 0)", INDEX, AmendedDrawing::new, d -> d.needed(n, 0));
            Watch.refused(CHECK, "needs(" + n + ", 0)", INDEX, AmendedDrawing::new, d -> d.needs(n, 0));
            Watch.refused(CHECK, "object(" + n + ", 0)", INDEX, AmendedDrawing::new, d -> d.object(n, 0));
        }
        Watch.refused(CHECK, "undo()", NO_ELEMENT, AmendedDrawing::new, AmendedDrawing::undo);
        Watch.refused(CHECK, "redo()", NO_ELEMENT, AmendedDrawing::new, AmendedDrawing::redo);
    }

    /** "its number, the next one", from 0 to the 24th, 23. */
    private static void promise2From0To23() {
        AmendedDrawing d = new AmendedDrawing();
        CHECK.same("the first", Sketch.make(d, 0, 0, 0, 10, 10), 0);
        for (int n = 1; n <= 23; n++) {
            CHECK.same("actions", d.actions(), n);
            CHECK.same("number", Sketch.move(d, 0, 1, 0), n);
        }
        CHECK.same("actions", d.actions(), 24);
        CHECK.same("left", d.object(0, 2), 23);
    }

    /** "IllegalStateException when there are 24": withdrawn ones and ones without effect counted. */
    private static void promise2A25th() {
        Watch.refused(CHECK, "a 25th", STATE, Sketch::fullRow, d -> Sketch.paint(d, 0, 1));
        Watch.refused(CHECK, "a 25th that makes a shape", STATE, Sketch::fullRow,
                d -> Sketch.make(d, 0, 0, 0, 1, 1));
        AmendedDrawing withdrawn = Sketch.fullRow();
        withdrawn.withdraw(23);
        CHECK.fails("a 25th when the last is withdrawn", STATE, () -> Sketch.paint(withdrawn, 0, 1));
        withdrawn.withdraw(0);
        CHECK.fails("a 25th when none is done", STATE, () -> Sketch.make(withdrawn, 0, 0, 0, 1, 1));
        AmendedDrawing undone = Sketch.fullRow();
        undone.undo();
        CHECK.same("a 24th again", Sketch.paint(undone, 0, 1), 23);
        CHECK.fails("a 25th again", STATE, () -> Sketch.paint(undone, 0, 1));
        AmendedDrawing redone = Sketch.fullRow();
        redone.undo();
        redone.redo();
        CHECK.fails("a 25th when the 24th was done again", STATE, () -> Sketch.paint(redone, 0, 1));
    }

    /** "or it would be without effect": also when only what is withdrawn would give it one. */
    private static void promise2WithoutEffect() {
        int[][] calls = {
            {1, 1, 0, 0}, {2, 1, 1, 1}, {3, 1, 1, 1}, {4, 1, 1, 0}, {5, 1, 1, 0}, {6, 1, 0, 0},
            {6, 0, 1, 0}, {7, 3, 0, 0}, {7, 0, 0, 0}, {8, 1, 1, 1}, {9, 1, 0, 0}, {9, 0, 1, 0},
            {4, 5, 1, 0}, {4, 6, 1, 0}, {4, 23, 1, 0}, {6, 0, 0, 0}, {9, 2, 2, 0},
        };
        for (int[] v : calls) {
            Watch.refused(CHECK, "commit(" + v[0] + ", " + v[1] + ", " + v[2] + ", " + v[3] + ", 0)", STATE,
                    Sketch::busy, d -> d.commit(v[0], v[1], v[2], v[3], 0));
        }
        CHECK.same("one that would have an effect", Sketch.busy().commit(6, 0, 2, 0, 0), 5);
    }

    /** "of several exceptions the one that stands first in the throws clause is thrown". */
    private static void promise2ArgumentsComeFirst() {
        int[][] calls = {
            {-1, 0, 0, 0}, {10, 0, 0, 0}, {0, 3, 0, 0}, {1, 24, 0, 0}, {2, 5, 201, 0}, {2, 5, 0, -201},
            {3, 5, 0, 1}, {3, 5, 1, 10}, {4, 5, 8, 0}, {5, 5, 2, 0}, {6, 5, 24, 0}, {7, -1, 0, 0},
            {8, 5, 0, 201}, {9, 5, 5, 4}, {9, 24, 0, 0},
        };
        for (int[] v : calls) {
            String call = "commit(" + v[0] + ", " + v[1] + ", " + v[2] + ", " + v[3] + ", 0)";
            Watch.refused(CHECK, call + " without effect", ARGUMENT, Sketch::busy,
                    d -> d.commit(v[0], v[1], v[2], v[3], 0));
            Watch.refused(CHECK, call + " as a 25th", ARGUMENT, Sketch::fullRow,
                    d -> d.commit(v[0], v[1], v[2], v[3], 0));
        }
        Watch.refused(CHECK, "a wrong size beyond the limits", ARGUMENT, Sketch::busy,
                d -> d.commit(0, 0, 200, 200, 128));
        Watch.refused(CHECK, "a wrong size as a 13th object", ARGUMENT, () -> Sketch.squares(12),
                d -> d.commit(0, 0, 0, 0, 128));
    }

    /** "(The number of a commit that was undone is the next one's.)" */
    private static void promise2NumberOfAnUndoneCommit() {
        AmendedDrawing d = Sketch.squares(3);
        d.undo();
        d.undo();
        CHECK.same("the next one", Sketch.make(d, 1, 0, 0, 5, 5), 1);
        CHECK.same("form of 1", d.object(1, 1), 1);
        CHECK.same("the one after it", Sketch.paint(d, 1, 4), 2);
        CHECK.same("kind of 2", d.argument(2, 4), 4);
        d.withdraw(1);
        CHECK.same("undo of withdraw", d.undo(), 1);
        CHECK.same("undo of PAINT", d.undo(), 0);
        CHECK.same("undo of MAKE", d.undo(), 0);
        CHECK.same("once more", Sketch.make(d, 2, 0, 0, 6, 6), 1);
        CHECK.same("it is not withdrawn", d.effect(1), 1);
        AmendedDrawing first = Sketch.squares(1);
        first.undo();
        CHECK.same("the first again", Sketch.make(first, 0, 0, 0, 1, 1), 0);
    }

    /** "IndexOutOfBoundsException when there is no such action". */
    private static void promise3NoSuchAction() {
        for (int n : new int[] {-1, 5, 6, 23, 24, MIN, MAX}) {
            Watch.refused(CHECK, "withdraw(" + n + ")", INDEX, Sketch::busy, d -> d.withdraw(n));
        }
        for (int n : new int[] {-1, 24, 25, MIN, MAX}) {
            Watch.refused(CHECK, "withdraw(" + n + ") of 24", INDEX, Sketch::fullRow, d -> d.withdraw(n));
        }
    }

    /** "IllegalStateException when it is withdrawn"; one without effect can be. */
    private static void promise3Withdrawn() {
        Watch.refused(CHECK, "withdraw a withdrawn one", STATE, Sketch::busy, d -> d.withdraw(1));
        AmendedDrawing d = Sketch.busy();
        CHECK.same("withdraw one without effect", d.withdraw(4), 0);
        CHECK.same("its effect", d.effect(4), 0);
        CHECK.fails("withdraw it again", STATE, () -> d.withdraw(4));
        d.undo();
        CHECK.same("withdraw it when that was undone", d.withdraw(4), 0);
    }

    /** "of how many others (so: later ones) the effect (as told by effect) is another one then". */
    private static void promise3CountsNoneAndAll() {
        AmendedDrawing last = Sketch.fullRow();
        CHECK.same("withdraw the last of 24", last.withdraw(23), 0);
        CHECK.same("withdraw the first: one of the others is withdrawn", last.withdraw(0), 22);
        AmendedDrawing first = Sketch.fullRow();
        CHECK.same("withdraw the first of 24", first.withdraw(0), 23);
        CHECK.same("withdraw one more", first.withdraw(1), 0);
        AmendedDrawing only = Sketch.squares(1);
        CHECK.same("withdraw the only one", only.withdraw(0), 0);
    }

    /** Others whose effect was 2 and is 1 then count as well, one of each way here. */
    private static void promise3CountsWhatComesBack() {
        AmendedDrawing d = Sketch.squares(2);
        int delete = Sketch.delete(d, 0);
        d.withdraw(delete);
        int paint = Sketch.paint(d, 0, 1);
        d.reinstate(delete);
        CHECK.same("effect of PAINT", d.effect(paint), 2);
        CHECK.same("withdraw DELETE", d.withdraw(delete), 1);
        CHECK.same("effect of PAINT", d.effect(paint), 1);

        AmendedDrawing both = Sketch.squares(2);
        int group = Sketch.group(both, 0, 1);
        both.withdraw(group);
        int alone = Sketch.group(both, 1, 0);
        both.reinstate(group);
        int inner = Sketch.move(both, group, 0, 1);
        CHECK.same("withdraw: one loses its effect, one gets it", both.withdraw(group), 2);
        CHECK.same("effect of the one that gets it", both.effect(alone), 1);
        CHECK.same("effect of the one that loses it", both.effect(inner), 2);
    }

    /** "IndexOutOfBoundsException when there is no such action". */
    private static void promise4NoSuchAction() {
        for (int n : new int[] {-1, 5, 6, 23, 24, MIN, MAX}) {
            Watch.refused(CHECK, "reinstate(" + n + ")", INDEX, Sketch::busy, d -> d.reinstate(n));
        }
        for (int n : new int[] {-1, 24, 25, MIN, MAX}) {
            Watch.refused(CHECK, "reinstate(" + n + ") of 24", INDEX, Sketch::fullRow, d -> d.reinstate(n));
        }
    }

    /** "IllegalStateException when it is not withdrawn": done or without effect. */
    private static void promise4NotWithdrawn() {
        Watch.refused(CHECK, "reinstate one that is done", STATE, Sketch::busy, d -> d.reinstate(0));
        Watch.refused(CHECK, "reinstate one without effect", STATE, Sketch::busy, d -> d.reinstate(3));
        AmendedDrawing d = Sketch.busy();
        d.reinstate(1);
        CHECK.fails("reinstate it again", STATE, () -> d.reinstate(1));
    }

    /** "of how many others the effect is another one then". */
    private static void promise4CountsNoneAndAll() {
        AmendedDrawing d = Sketch.fullRow();
        d.withdraw(23);
        CHECK.same("reinstate the last of 24", d.reinstate(23), 0);
        d.withdraw(0);
        CHECK.same("reinstate the first of 24", d.reinstate(0), 23);
        AmendedDrawing both = Sketch.squares(2);
        int group = Sketch.group(both, 0, 1);
        both.withdraw(group);
        int alone = Sketch.group(both, 1, 0);
        both.reinstate(group);
        int inner = Sketch.move(both, group, 0, 1);
        both.withdraw(group);
        CHECK.same("reinstate: one loses its effect, one gets it", both.reinstate(group), 2);
        CHECK.same("effect of the one that loses it", both.effect(alone), 2);
        CHECK.same("effect of the one that gets it", both.effect(inner), 1);
    }

    private static void promise4ComesBackWithoutEffect() {
        AmendedDrawing d = Sketch.busy();
        d.withdraw(3);
        CHECK.same("reinstate", d.reinstate(3), 0);
        CHECK.same("its effect", d.effect(3), 2);
    }

    /** "IndexOutOfBoundsException when there is no such action". */
    private static void promise5NoSuchAction() {
        for (int n : new int[] {-1, 5, 6, 23, 24, MIN, MAX}) {
            Watch.refused(CHECK, "amend(" + n + ", 0, 0)", INDEX, Sketch::busy, d -> d.amend(n, 0, 0));
        }
        for (int n : new int[] {-1, 24, 25, MIN, MAX}) {
            Watch.refused(CHECK, "amend(" + n + ", 0, 0) of 24", INDEX, Sketch::fullRow, d -> d.amend(n, 0, 0));
        }
    }

    /** "of several exceptions the one that stands first in the throws clause is thrown". */
    private static void promise5NoSuchActionComesFirst() {
        for (int n : new int[] {-1, 5, 24, MIN, MAX}) {
            Watch.refused(CHECK, "amend(" + n + ", 4, 0)", INDEX, Sketch::busy, d -> d.amend(n, 4, 0));
            Watch.refused(CHECK, "amend(" + n + ", -1, 0)", INDEX, Sketch::busy, d -> d.amend(n, -1, 0));
            Watch.refused(CHECK, "amend(" + n + ", 0, -1)", INDEX, Sketch::busy, d -> d.amend(n, 0, -1));
            Watch.refused(CHECK, "amend(" + n + ", MIN, MAX)", INDEX, Sketch::busy, d -> d.amend(n, MIN, MAX));
        }
    }

    /** "of an action, withdrawn or not": it stays withdrawn, and comes back with what it was given. */
    private static void promise5Withdrawn() {
        AmendedDrawing d = Sketch.busy();
        CHECK.same("amend a withdrawn one", d.amend(1, 2, 50), 0);
        CHECK.same("its effect", d.effect(1), 0);
        CHECK.same("its argument", d.argument(1, 2), 50);
        d.reinstate(1);
        CHECK.same("hit", d.hit(-170, 50), 1);
        d.withdraw(1);
        CHECK.same("amend it beyond the limits", d.amend(1, 2, 200), 50);
        CHECK.same("its effect", d.effect(1), 0);
        Watch.refused(CHECK, "a wrong value for a withdrawn one", ARGUMENT, Sketch::busy, e -> e.amend(1, 2, 201));
        Watch.refused(CHECK, "no argument of a withdrawn one", ARGUMENT, Sketch::busy, e -> e.amend(1, 4, 0));
    }

    /** "(also if it is without effect then)". */
    private static void promise5WithoutEffect() {
        AmendedDrawing d = Sketch.squares(2);
        int paint = Sketch.paint(d, 1, 3);
        CHECK.same("amend to what is never there", d.amend(paint, 0, 23), 1);
        CHECK.same("effect", d.effect(paint), 2);
        CHECK.same("amend it while it is without effect", d.amend(paint, 1, 7), 3);
        CHECK.same("effect", d.effect(paint), 2);
        CHECK.same("amend back", d.amend(paint, 0, 0), 23);
        CHECK.same("effect", d.effect(paint), 1);
        CHECK.same("colour", d.object(0, 6), 7);
        CHECK.same("amend a shape beyond the limits", d.amend(0, 1, 191), -190);
        CHECK.same("effect of MAKE", d.effect(0), 2);
        CHECK.same("effect of PAINT", d.effect(paint), 2);
        CHECK.same("amend it to the limit", d.amend(0, 1, 190), 191);
        CHECK.same("effect of MAKE", d.effect(0), 1);
        CHECK.same("effect of PAINT", d.effect(paint), 1);
    }

    /** "amend also if nothing is another one by it" is an edit: it can be undone, and nothing can be done again. */
    private static void promise5TheSame() {
        AmendedDrawing d = Sketch.busy();
        CHECK.same("amend to the same", d.amend(0, 1, -190), -190);
        CHECK.fails("redo", NO_ELEMENT, d::redo);
        CHECK.text("undone", Watch.undone(d), "3100000");
    }

    private static void promise5FirstAndLast() {
        AmendedDrawing d = Sketch.fullRow();
        CHECK.same("amend the last of 24", d.amend(23, 1, 0), 7);
        CHECK.same("colour", d.object(0, 6), 0);
        CHECK.same("amend the first of 24", d.amend(0, 0, 2), 0);
        CHECK.same("form", d.object(0, 1), 2);
        CHECK.same("amend its last argument", d.amend(0, 3, 12900), 1290);
        CHECK.same("width", d.object(0, 4), 100);
        CHECK.same("effect of the last", d.effect(23), 1);
    }
}
