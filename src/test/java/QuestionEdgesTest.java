/** The boundary cases of promises 8 to 14, with numbers at both ends of int where a call takes any. */
public final class QuestionEdgesTest {
    private static final Check CHECK = new Check();
    private static final Class<IndexOutOfBoundsException> INDEX = IndexOutOfBoundsException.class;
    private static final int NONE = AmendedDrawing.NONE;
    private static final int MIN = Integer.MIN_VALUE;
    private static final int MAX = Integer.MAX_VALUE;
    private static final int[] NO_ACTIONS_OF_BUSY = {-1, 5, 6, 23, 24, MIN, MAX};
    private static final int[] NO_ACTIONS_OF_24 = {-1, 24, 25, MIN, MAX};

    public static void main(String[] args) {
        promise8From0To24();
        promise9NoSuchActionOrArgument();
        promise9ArgumentsThatItHasNot();
        promise9FirstAndLast();
        promise10NoSuchAction();
        promise10EachEffect();
        promise11NoSuchAction();
        promise11NotSoMany();
        promise11All23();
        promise11OfAWithdrawnOne();
        promise11ThisOneAlone();
        promise12NoSuchAction();
        promise12NotSoMany();
        promise12All23();
        promise12OfAWithdrawnOne();
        promise12ThatOneAlone();
        promise13From0To12();
        promise14NoSuchObjectOrWhat();
        promise14FirstAndLast();
        promise14NoneForAGroup();
        CHECK.end("QuestionEdgesTest");
    }

    private static void promise8From0To24() {
        AmendedDrawing d = new AmendedDrawing();
        CHECK.same("actions of a new one", d.actions(), 0);
        Sketch.make(d, 0, 0, 0, 1, 1);
        for (int n = 1; n < 24; n++) {
            CHECK.same("actions", d.actions(), n);
            Sketch.raise(d, 0, 0);
        }
        CHECK.same("actions when it is full", d.actions(), 24);
        d.withdraw(0);
        CHECK.same("actions, all withdrawn or without effect", d.actions(), 24);
    }

    /** "IndexOutOfBoundsException when there is no such action or i." */
    private static void promise9NoSuchActionOrArgument() {
        for (int n : NO_ACTIONS_OF_BUSY) {
            for (int i : new int[] {0, 4, -1, 5}) {
                Watch.refused(CHECK, "argument(" + n + ", " + i + ")", INDEX, Sketch::busy, d -> d.argument(n, i));
            }
        }
        for (int n : NO_ACTIONS_OF_24) {
            Watch.refused(CHECK, "argument(" + n + ", 0) of 24", INDEX, Sketch::fullRow, d -> d.argument(n, 0));
        }
        for (int i : new int[] {-1, 5, MIN, MAX}) {
            for (int n = 0; n < 5; n++) {
                int asked = n;
                Watch.refused(CHECK, "argument(" + n + ", " + i + ")", INDEX, Sketch::busy,
                        d -> d.argument(asked, i));
            }
        }
    }

    /** "for i = 0 .. 3 an argument (0 when it has none such), for 4 its kind", here of each kind. */
    private static void promise9ArgumentsThatItHasNot() {
        AmendedDrawing d = Sketch.squares(2);
        int[][] rows = {
            {2, 0, 2, 3}, {3, 0, 4, 5}, {4, 0, 6}, {5, 1, 1}, {6, 1, 0}, {7, 6}, {8, 1, 7, 8}, {9, 1, 0, 3}, {1, 1},
        };
        for (int[] v : rows) {
            int has = v.length - 1;
            int n = d.commit(v[0], v[1], has > 1 ? v[2] : 99, has > 2 ? v[3] : 99, 99);
            for (int i = 0; i < 4; i++) {
                CHECK.same("argument(" + n + ", " + i + ") of kind " + v[0], d.argument(n, i), i < has ? v[i + 1] : 0);
            }
            CHECK.same("argument(" + n + ", 4)", d.argument(n, 4), v[0]);
        }
        int[] make = {0, -170, 0, 1290, 0};
        for (int i = 0; i <= 4; i++) {
            CHECK.same("argument(1, " + i + ")", d.argument(1, i), make[i]);
        }
    }

    private static void promise9FirstAndLast() {
        AmendedDrawing d = Sketch.fullRow();
        CHECK.same("the first's last argument", d.argument(0, 3), 1290);
        CHECK.same("the first's kind", d.argument(0, 4), 0);
        CHECK.same("the last's colour", d.argument(23, 1), 7);
        CHECK.same("the last's kind", d.argument(23, 4), 4);
    }

    /** "IndexOutOfBoundsException when there is no such action." */
    private static void promise10NoSuchAction() {
        for (int n : NO_ACTIONS_OF_BUSY) {
            Watch.refused(CHECK, "effect(" + n + ")", INDEX, Sketch::busy, d -> d.effect(n));
        }
        for (int n : NO_ACTIONS_OF_24) {
            Watch.refused(CHECK, "effect(" + n + ") of 24", INDEX, Sketch::fullRow, d -> d.effect(n));
        }
    }

    /** "0 when an action is withdrawn, 1 done, 2 without effect", the first and the last of 24 among them. */
    private static void promise10EachEffect() {
        AmendedDrawing d = Sketch.busy();
        int[] effects = {1, 0, 1, 2, 2};
        for (int n = 0; n < 5; n++) {
            CHECK.same("effect(" + n + ")", d.effect(n), effects[n]);
        }
        AmendedDrawing full = Sketch.fullRow();
        CHECK.same("effect of the last", full.effect(23), 1);
        full.withdraw(0);
        CHECK.same("effect of the first", full.effect(0), 0);
        CHECK.same("effect of the last", full.effect(23), 2);
        full.withdraw(23);
        CHECK.same("withdrawn, and it would be without effect", full.effect(23), 0);
    }

    /** "IndexOutOfBoundsException when there is no such action", whatever i is. */
    private static void promise11NoSuchAction() {
        for (int n : NO_ACTIONS_OF_BUSY) {
            for (int i : new int[] {0, -1, MIN, MAX}) {
                Watch.refused(CHECK, "needed(" + n + ", " + i + ")", INDEX, Sketch::busy, d -> d.needed(n, i));
            }
        }
        for (int n : NO_ACTIONS_OF_24) {
            Watch.refused(CHECK, "needed(" + n + ", 0) of 24", INDEX, Sketch::fullRow, d -> d.needed(n, 0));
        }
    }

    /** "NONE when there are not so many (so for i below 0)". */
    private static void promise11NotSoMany() {
        AmendedDrawing d = Sketch.busy();
        CHECK.same("needed(1, 0)", d.needed(1, 0), 3);
        CHECK.same("needed(1, 1)", d.needed(1, 1), 4);
        for (int i : new int[] {2, 3, 24, MAX, -1, -2, MIN}) {
            CHECK.same("needed(1, " + i + ")", d.needed(1, i), NONE);
        }
        for (int i : new int[] {0, 1, -1, MIN, MAX}) {
            CHECK.same("needed(2, " + i + "): none needs it", d.needed(2, i), NONE);
            CHECK.same("needed(4, " + i + "): none is later", d.needed(4, i), NONE);
        }
    }

    private static void promise11All23() {
        AmendedDrawing d = Sketch.fullRow();
        for (int i = 0; i < 23; i++) {
            CHECK.same("needed(0, " + i + ")", d.needed(0, i), i + 1);
        }
        CHECK.same("needed(0, 23)", d.needed(0, 23), NONE);
        CHECK.same("needed(0, -1)", d.needed(0, -1), NONE);
        CHECK.same("needed(23, 0)", d.needed(23, 0), NONE);
        d.withdraw(23);
        CHECK.same("the last is withdrawn and stays so", d.needed(0, 22), NONE);
        CHECK.same("the one before it", d.needed(0, 21), 22);
    }

    /** "if this one alone was switched (withdrawn, or came back)"; asking switches nothing. */
    private static void promise11OfAWithdrawnOne() {
        AmendedDrawing d = Sketch.fullRow();
        d.withdraw(0);
        String before = Watch.state(d);
        CHECK.same("needed(0, 0) of a withdrawn one", d.needed(0, 0), 1);
        CHECK.same("needed(0, 22) of a withdrawn one", d.needed(0, 22), 23);
        CHECK.text("state behind it", Watch.state(d), before);
        AmendedDrawing other = Sketch.busy();
        before = Watch.state(other);
        other.needed(1, 0);
        other.needed(0, 7);
        CHECK.text("state behind needed", Watch.state(other), before);
        CHECK.text("redone behind needed", Watch.redone(other), "03");
    }

    /** One without effect is switched, too: its withdrawal changes nothing, though with others it would. */
    private static void promise11ThisOneAlone() {
        AmendedDrawing d = Sketch.busy();
        CHECK.same("needed(3, 0): PAINT has no effect anyway", d.needed(3, 0), NONE);
        d.withdraw(0);
        CHECK.same("needed(1, 0): GROUP would need 0 as well", d.needed(1, 0), NONE);
        CHECK.same("needed(0, 0): GROUP would need 1 as well", d.needed(0, 0), NONE);
        d.reinstate(1);
        CHECK.same("needed(0, 0)", d.needed(0, 0), 3);
        CHECK.same("needed(0, 1)", d.needed(0, 1), 4);
    }

    /** "IndexOutOfBoundsException when there is no such action", whatever i is. */
    private static void promise12NoSuchAction() {
        for (int n : NO_ACTIONS_OF_BUSY) {
            for (int i : new int[] {0, -1, MIN, MAX}) {
                Watch.refused(CHECK, "needs(" + n + ", " + i + ")", INDEX, Sketch::busy, d -> d.needs(n, i));
            }
        }
        for (int n : NO_ACTIONS_OF_24) {
            Watch.refused(CHECK, "needs(" + n + ", 0) of 24", INDEX, Sketch::fullRow, d -> d.needs(n, 0));
        }
    }

    /** "NONE when there are not so many". */
    private static void promise12NotSoMany() {
        AmendedDrawing d = Sketch.busy();
        d.reinstate(1);
        CHECK.same("needs(4, 0)", d.needs(4, 0), 0);
        CHECK.same("needs(4, 1)", d.needs(4, 1), 1);
        CHECK.same("needs(4, 2)", d.needs(4, 2), 3);
        for (int i : new int[] {3, 4, 24, MAX, -1, -2, MIN}) {
            CHECK.same("needs(4, " + i + ")", d.needs(4, i), NONE);
        }
        for (int i : new int[] {0, 1, -1, MIN, MAX}) {
            CHECK.same("needs(0, " + i + "): none is earlier", d.needs(0, i), NONE);
            CHECK.same("needs(2, " + i + "): it needs none", d.needs(2, i), NONE);
        }
    }

    /** Twelve shapes, each the double of the one before, eleven moves of the last one, and a move that needs all. */
    private static AmendedDrawing chain() {
        AmendedDrawing d = new AmendedDrawing();
        Sketch.make(d, 0, -11, 0, 1, 1);
        for (int n = 1; n <= 11; n++) {
            Sketch.twice(d, n - 1, 0, 0);
        }
        for (int n = 12; n <= 22; n++) {
            Sketch.move(d, 11, 1, 0);
        }
        Sketch.move(d, 11, -200, 0);
        return d;
    }

    private static void promise12All23() {
        AmendedDrawing d = chain();
        for (int i = 0; i < 23; i++) {
            CHECK.same("needs(23, " + i + ")", d.needs(23, i), i);
        }
        CHECK.same("needs(23, 23)", d.needs(23, 23), NONE);
        CHECK.same("needs(23, -1)", d.needs(23, -1), NONE);
        CHECK.same("needs(23, MAX)", d.needs(23, MAX), NONE);
        CHECK.text("box", Sketch.box(d, 11), "-200 0 1 1");
    }

    /** "(one that is withdrawn has always 0)": none gives it another effect. */
    private static void promise12OfAWithdrawnOne() {
        AmendedDrawing d = chain();
        d.withdraw(23);
        for (int i : new int[] {0, 22, 23, -1, MIN, MAX}) {
            CHECK.same("needs(23, " + i + ")", d.needs(23, i), NONE);
        }
        AmendedDrawing asked = Sketch.busy();
        CHECK.same("needs(1, 0)", asked.needs(1, 0), NONE);
        String before = Watch.state(asked);
        asked.needs(4, 0);
        asked.needs(4, 7);
        CHECK.text("state behind needs", Watch.state(asked), before);
        CHECK.text("redone behind needs", Watch.redone(asked), "03");
    }

    private static void promise12ThatOneAlone() {
        AmendedDrawing d = Sketch.busy();
        CHECK.same("needs(4, 0): 1 would come back", d.needs(4, 0), 1);
        CHECK.same("needs(4, 1)", d.needs(4, 1), NONE);
        d.withdraw(0);
        CHECK.same("needs(4, 0): 0 alone or 1 alone would not do", d.needs(4, 0), NONE);
        AmendedDrawing beyond = chain();
        beyond.withdraw(15);
        CHECK.same("needs(23, 0): one move lacks", beyond.needs(23, 0), 15);
        CHECK.same("needs(23, 1)", beyond.needs(23, 1), NONE);
        beyond.withdraw(16);
        CHECK.same("needs(23, 0): two moves lack", beyond.needs(23, 0), NONE);
    }

    private static void promise13From0To12() {
        AmendedDrawing d = new AmendedDrawing();
        for (int k = 0; k < 12; k++) {
            CHECK.same("objects", d.objects(), k);
            Sketch.make(d, 0, k, k, 1, 1);
        }
        CHECK.same("objects when it is full", d.objects(), 12);
        for (int k = 11; k >= 0; k--) {
            d.withdraw(k);
            CHECK.same("objects", d.objects(), k);
        }
    }

    /** "IndexOutOfBoundsException when there is no such object or what." */
    private static void promise14NoSuchObjectOrWhat() {
        for (int k : new int[] {-1, 2, 3, 12, 24, MIN, MAX}) {
            for (int what : new int[] {0, 7, -1, 8}) {
                Watch.refused(CHECK, "object(" + k + ", " + what + ")", INDEX, Sketch::busy, d -> d.object(k, what));
            }
        }
        for (int k : new int[] {-1, 12, 13, MIN, MAX}) {
            Watch.refused(CHECK, "object(" + k + ", 0) of 12", INDEX, () -> Sketch.squares(12),
                    d -> d.object(k, 0));
        }
        for (int what : new int[] {-1, 8, MIN, MAX}) {
            for (int k = 0; k < 2; k++) {
                int asked = k;
                Watch.refused(CHECK, "object(" + k + ", " + what + ")", INDEX, Sketch::busy,
                        d -> d.object(asked, what));
            }
        }
    }

    private static void promise14FirstAndLast() {
        AmendedDrawing d = Sketch.squares(12);
        int[] first = {0, 0, -190, 0, 10, 10, 0, NONE};
        int[] last = {11, 0, 30, 0, 10, 10, 0, NONE};
        for (int what = 0; what <= 7; what++) {
            CHECK.same("object(0, " + what + ")", d.object(0, what), first[what]);
            CHECK.same("object(11, " + what + ")", d.object(11, what), last[what]);
        }
    }

    /** "the colour (NONE for a group)", "the name of its parent (NONE)". */
    private static void promise14NoneForAGroup() {
        AmendedDrawing d = Sketch.squares(3);
        Sketch.paint(d, 0, 7);
        Sketch.group(d, 0, 1);
        Sketch.group(d, 2, 4);
        int[][] want = {
            {5, 3, -190, 0, 50, 10, NONE, NONE},
            {4, 3, -190, 0, 30, 10, NONE, 5},
            {0, 0, -190, 0, 10, 10, 7, 4},
            {1, 0, -170, 0, 10, 10, 0, 4},
            {2, 0, -150, 0, 10, 10, 0, 5},
        };
        for (int k = 0; k < want.length; k++) {
            for (int what = 0; what <= 7; what++) {
                CHECK.same("object(" + k + ", " + what + ")", d.object(k, what), want[k][what]);
            }
        }
    }
}
