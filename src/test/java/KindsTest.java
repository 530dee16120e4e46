/** What each kind of action makes of a drawing, and when it is without effect (promise 2, by the document's terms). */
public final class KindsTest {
    private static final Check CHECK = new Check();
    private static final Class<IllegalStateException> NO_EFFECT = IllegalStateException.class;

    public static void main(String[] args) {
        makes();
        makesWithinLimits();
        deletes();
        moves();
        scales();
        paints();
        raises();
        groups();
        ungroups();
        doubles();
        aligns();
        alignsWithoutEffect();
        keepsTwelveObjects();
        CHECK.end("KindsTest");
    }

    private static void order(AmendedDrawing d, String want) {
        String got = Sketch.order(d);
        CHECK.holds("order " + got + ", due is " + want, got.equals(want));
    }

    private static void box(AmendedDrawing d, int name, String want) {
        String got = Sketch.box(d, name);
        CHECK.holds("box of " + name + " is " + got + ", due is " + want, got.equals(want));
    }

    private static void makes() {
        AmendedDrawing d = new AmendedDrawing();
        Sketch.make(d, Sketch.DIAMOND, -3, 4, 100, 1);
        Sketch.make(d, Sketch.ELLIPSE, 5, -6, 1, 100);
        order(d, "0 1");
        box(d, 0, "-3 4 100 1");
        box(d, 1, "5 -6 1 100");
        CHECK.same("form", d.object(0, 1), 2);
        CHECK.same("form", d.object(1, 1), 1);
        CHECK.same("colour", d.object(0, 6), 0);
        CHECK.same("parent", d.object(0, 7), AmendedDrawing.NONE);
    }

    private static void makesWithinLimits() {
        AmendedDrawing d = new AmendedDrawing();
        CHECK.fails("right end 201", NO_EFFECT, () -> Sketch.make(d, 0, 101, 0, 100, 1));
        CHECK.fails("lower end 201", NO_EFFECT, () -> Sketch.make(d, 0, 0, 101, 1, 100));
        CHECK.fails("left 200", NO_EFFECT, () -> Sketch.make(d, 0, 200, 0, 1, 1));
        CHECK.same("actions", d.actions(), 0);
        CHECK.same("right end 200", Sketch.make(d, 0, 100, 100, 100, 100), 0);
        CHECK.same("left -200", Sketch.make(d, 0, -200, -200, 1, 1), 1);
    }

    private static void deletes() {
        AmendedDrawing d = Sketch.squares(4);
        Sketch.group(d, 0, 1);
        Sketch.group(d, 4, 2);
        order(d, "5(4(0 1) 2) 3");
        Sketch.delete(d, 4);
        order(d, "5(2) 3");
        Sketch.delete(d, 2);
        order(d, "3");
        CHECK.fails("delete what is gone", NO_EFFECT, () -> Sketch.delete(d, 5));
        CHECK.fails("delete what is no object", NO_EFFECT, () -> Sketch.delete(d, 6));
        CHECK.fails("delete its own number", NO_EFFECT, () -> Sketch.delete(d, 8));
        Sketch.delete(d, 3);
        CHECK.same("objects", d.objects(), 0);

        AmendedDrawing nested = Sketch.squares(3);
        Sketch.group(nested, 0, 1);
        Sketch.group(nested, 3, 2);
        Sketch.delete(nested, 2);
        Sketch.delete(nested, 0);
        order(nested, "4(3(1))");
        Sketch.delete(nested, 1);
        CHECK.same("objects when every group lost its last member", nested.objects(), 0);
    }

    private static void moves() {
        AmendedDrawing d = Sketch.squares(3);
        Sketch.group(d, 0, 1);
        Sketch.move(d, 3, -10, 200 - 10);
        box(d, 0, "-200 190 10 10");
        box(d, 1, "-180 190 10 10");
        box(d, 2, "-150 0 10 10");
        CHECK.fails("one member too far left", NO_EFFECT, () -> Sketch.move(d, 3, -1, 0));
        CHECK.fails("too low", NO_EFFECT, () -> Sketch.move(d, 3, 0, 1));
        box(d, 1, "-180 190 10 10");
        Sketch.move(d, 2, 200, -200);
        box(d, 2, "50 -200 10 10");
        CHECK.fails("too high", NO_EFFECT, () -> Sketch.move(d, 2, 0, -1));
        CHECK.fails("too far right", NO_EFFECT, () -> Sketch.move(d, 2, 141, 0));
        CHECK.same("just so far", Sketch.move(d, 2, 140, 0), 6);
    }

    private static void scales() {
        AmendedDrawing d = new AmendedDrawing();
        Sketch.make(d, 0, -7, 3, 10, 5);
        Sketch.make(d, 1, 0, 13, 3, 1);
        Sketch.group(d, 0, 1);
        Sketch.scale(d, 2, 2, 3);
        box(d, 0, "-7 3 6 3");
        box(d, 1, "-3 9 2 1");
        Sketch.scale(d, 2, 1, 9);
        box(d, 0, "-7 3 1 1");
        box(d, 1, "-7 3 1 1");
        Sketch.scale(d, 1, 9, 1);
        box(d, 1, "-7 3 9 9");
        box(d, 0, "-7 3 1 1");
        Sketch.scale(d, 2, 9, 1);
        box(d, 2, "-7 3 81 81");
        CHECK.fails("too wide", NO_EFFECT, () -> Sketch.scale(d, 2, 9, 2));
        box(d, 0, "-7 3 9 9");
        box(d, 1, "-7 3 81 81");

        AmendedDrawing edge = new AmendedDrawing();
        Sketch.make(edge, 0, -200, -200, 50, 50);
        CHECK.same("400 wide", Sketch.scale(edge, 0, 8, 1), 1);
        box(edge, 0, "-200 -200 400 400");
    }

    private static void paints() {
        AmendedDrawing d = Sketch.squares(3);
        Sketch.group(d, 0, 1);
        Sketch.paint(d, 3, 7);
        CHECK.same("colour in the group", Sketch.colour(d, 0), 7);
        CHECK.same("colour in the group", Sketch.colour(d, 1), 7);
        CHECK.same("colour of another", Sketch.colour(d, 2), 0);
        CHECK.same("colour of the group", Sketch.colour(d, 3), AmendedDrawing.NONE);
        Sketch.paint(d, 0, 2);
        CHECK.same("colour of one member", Sketch.colour(d, 0), 2);
        CHECK.same("colour of the other member", Sketch.colour(d, 1), 7);
    }

    private static void raises() {
        AmendedDrawing d = Sketch.squares(5);
        Sketch.group(d, 1, 2);
        Sketch.group(d, 5, 3);
        order(d, "0 6(5(1 2) 3) 4");
        Sketch.raise(d, 6, 1);
        order(d, "0 4 6(5(1 2) 3)");
        Sketch.raise(d, 6, 0);
        order(d, "6(5(1 2) 3) 0 4");
        Sketch.raise(d, 5, 1);
        order(d, "6(3 5(1 2)) 0 4");
        Sketch.raise(d, 2, 0);
        order(d, "6(3 5(2 1)) 0 4");
        CHECK.same("raise where it is already", Sketch.raise(d, 2, 0), 11);
        order(d, "6(3 5(2 1)) 0 4");
        Sketch.raise(d, 2, 1);
        Sketch.raise(d, 5, 0);
        order(d, "6(5(1 2) 3) 0 4");
    }

    private static void groups() {
        AmendedDrawing d = Sketch.squares(4);
        Sketch.group(d, 2, 0);
        order(d, "1 4(0 2) 3");
        box(d, 4, "-190 0 50 10");
        CHECK.fails("a member", NO_EFFECT, () -> Sketch.group(d, 0, 1));
        CHECK.fails("a member", NO_EFFECT, () -> Sketch.group(d, 1, 0));
        CHECK.fails("twice the same", NO_EFFECT, () -> Sketch.group(d, 1, 1));
        CHECK.fails("its own member", NO_EFFECT, () -> Sketch.group(d, 4, 2));
        CHECK.fails("what is not there", NO_EFFECT, () -> Sketch.group(d, 1, 5));
        CHECK.fails("what is not there", NO_EFFECT, () -> Sketch.group(d, 5, 1));
        Sketch.group(d, 3, 4);
        order(d, "1 5(4(0 2) 3)");
        CHECK.same("parent of a group", d.object(2, 7), 5);
        Sketch.group(d, 1, 5);
        order(d, "6(1 5(4(0 2) 3))");
    }

    private static void ungroups() {
        AmendedDrawing d = Sketch.squares(4);
        Sketch.group(d, 0, 1);
        Sketch.group(d, 4, 2);
        order(d, "5(4(0 1) 2) 3");
        Sketch.ungroup(d, 4);
        order(d, "5(0 1 2) 3");
        Sketch.ungroup(d, 5);
        order(d, "0 1 2 3");
        CHECK.fails("a shape", NO_EFFECT, () -> Sketch.ungroup(d, 0));
        CHECK.fails("a group that is gone", NO_EFFECT, () -> Sketch.ungroup(d, 5));

        AmendedDrawing outer = Sketch.squares(3);
        Sketch.group(outer, 0, 1);
        Sketch.group(outer, 3, 2);
        Sketch.ungroup(outer, 4);
        order(outer, "3(0 1) 2");
    }

    private static void doubles() {
        AmendedDrawing d = new AmendedDrawing();
        Sketch.make(d, Sketch.ELLIPSE, 0, 0, 4, 6);
        Sketch.make(d, Sketch.DIAMOND, 50, 50, 5, 5);
        Sketch.paint(d, 0, 5);
        Sketch.group(d, 0, 1);
        CHECK.same("number", Sketch.twice(d, 0, -200, 100), 4);
        order(d, "3(0 4 1)");
        box(d, 4, "-200 100 4 6");
        CHECK.same("form", d.object(2, 1), 1);
        CHECK.same("colour", d.object(2, 6), 5);
        CHECK.same("parent", d.object(2, 7), 3);
        CHECK.fails("a group", NO_EFFECT, () -> Sketch.twice(d, 3, 0, 0));
        CHECK.fails("beyond the limits", NO_EFFECT, () -> Sketch.twice(d, 4, -1, 0));
        CHECK.fails("beyond the limits", NO_EFFECT, () -> Sketch.twice(d, 1, 0, 146));
        Sketch.twice(d, 1, 0, 145);
        order(d, "3(0 4 1 5)");
        box(d, 1, "50 50 5 5");
    }

    private static void aligns() {
        AmendedDrawing d = new AmendedDrawing();
        Sketch.make(d, 0, 10, 20, 30, 40);
        Sketch.make(d, 1, -50, -60, 7, 8);
        Sketch.make(d, 2, -40, -50, 3, 2);
        Sketch.group(d, 1, 2);
        box(d, 3, "-50 -60 13 12");
        Sketch.align(d, 3, 0, 0);
        box(d, 3, "10 -60 13 12");
        Sketch.align(d, 3, 0, 1);
        box(d, 3, "10 20 13 12");
        Sketch.align(d, 3, 0, 2);
        box(d, 3, "27 20 13 12");
        Sketch.align(d, 3, 0, 3);
        box(d, 3, "27 48 13 12");
        box(d, 0, "10 20 30 40");
        Sketch.align(d, 1, 2, 2);
        box(d, 1, "33 48 7 8");
        Sketch.align(d, 0, 1, 3);
        box(d, 0, "10 16 30 40");
    }

    private static void alignsWithoutEffect() {
        AmendedDrawing d = Sketch.squares(4);
        Sketch.group(d, 0, 1);
        Sketch.group(d, 4, 2);
        CHECK.fails("twice the same", NO_EFFECT, () -> Sketch.align(d, 3, 3, 0));
        CHECK.fails("in the other", NO_EFFECT, () -> Sketch.align(d, 0, 5, 0));
        CHECK.fails("the other in it", NO_EFFECT, () -> Sketch.align(d, 5, 0, 0));
        CHECK.fails("not there", NO_EFFECT, () -> Sketch.align(d, 3, 9, 0));
        CHECK.fails("not there", NO_EFFECT, () -> Sketch.align(d, 9, 3, 0));
        CHECK.same("two of different groups", Sketch.align(d, 2, 0, 0), 6);
        Sketch.make(d, 0, -200, 190, 10, 10);
        CHECK.fails("a member beyond the limits", NO_EFFECT, () -> Sketch.align(d, 5, 7, 2));
        box(d, 0, "-190 0 10 10");
        CHECK.same("just within the limits", Sketch.align(d, 5, 7, 0), 8);
        box(d, 0, "-200 0 10 10");
    }

    private static void keepsTwelveObjects() {
        AmendedDrawing d = Sketch.squares(12);
        CHECK.fails("a 13th shape", NO_EFFECT, () -> Sketch.make(d, 0, 0, 0, 1, 1));
        CHECK.fails("a 13th by a group", NO_EFFECT, () -> Sketch.group(d, 0, 1));
        CHECK.fails("a 13th by a double", NO_EFFECT, () -> Sketch.twice(d, 0, 0, 0));
        Sketch.delete(d, 11);
        CHECK.same("a group as the 12th", Sketch.group(d, 0, 1), 13);
        CHECK.same("objects", d.objects(), 12);
        CHECK.fails("a 13th beside a group", NO_EFFECT, () -> Sketch.make(d, 0, 0, 0, 1, 1));
        Sketch.ungroup(d, 13);
        CHECK.same("a double as the 12th", Sketch.twice(d, 0, 0, 0), 15);
        order(d, "0 15 1 2 3 4 5 6 7 8 9 10");
    }
}
