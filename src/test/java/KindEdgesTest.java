/** The boundary cases that the document's terms name for objects, groups and the ten kinds of action. */
public final class KindEdgesTest {
    private static final Check CHECK = new Check();
    private static final Class<IllegalStateException> STATE = IllegalStateException.class;
    private static final int NONE = AmendedDrawing.NONE;

    public static void main(String[] args) {
        namesAreNumbersOfActions();
        groupOfOneMember();
        boxOfAGroup();
        orderOfAll();
        makeStandsAloneAndLast();
        deleteWithAllThatIsInIt();
        deleteTheLastMember();
        deleteTheOnlyOneInManyGroups();
        whatIsGoneDoesNotCount();
        moveByNothing();
        scaleIsRoundedDown();
        scaleKeepsOneAtLeast();
        scaleOfAMember();
        paintOfAGroup();
        raiseAmongThoseThatStandAlone();
        raiseAmongMembers();
        raiseOneThatIsTheOnlyOne();
        groupWhereTheLaterOneStood();
        groupOfWhatDoesNotStandAlone();
        groupOfGroups();
        ungroupInItsPlace();
        ungroupAShape();
        doubleRightBehindIt();
        doubleOfAGroup();
        alignEachSide();
        alignWhereItIs();
        alignOneWithinTheOther();
        notThereAtItsTurn();
        withoutEffectChangesNothing();
        withoutEffectUntilItComesBack();
        CHECK.end("KindEdgesTest");
    }

    private static void order(AmendedDrawing d, String want) {
        CHECK.text("order", Sketch.order(d), want);
    }

    private static void box(AmendedDrawing d, int name, String want) {
        CHECK.text("box of " + name, Sketch.box(d, name), want);
    }

    /** "OBJECTS have the number of the action that made them as their NAME", whatever was withdrawn before it. */
    private static void namesAreNumbersOfActions() {
        AmendedDrawing d = Sketch.squares(3);
        d.withdraw(0);
        Sketch.twice(d, 2, 0, 20);
        Sketch.group(d, 1, 2);
        order(d, "4(1 2) 3");
        d.withdraw(1);
        order(d, "2 3");
        d.reinstate(0);
        order(d, "0 2 3");
    }

    /** "a GROUP (3) has one member at least": with one it stays, and can be all that is named. */
    private static void groupOfOneMember() {
        AmendedDrawing d = Sketch.squares(3);
        Sketch.group(d, 0, 1);
        Sketch.delete(d, 0);
        order(d, "3(1) 2");
        box(d, 3, "-170 0 10 10");
        CHECK.same("form", d.object(0, 1), 3);
        Sketch.move(d, 3, 5, 5);
        Sketch.scale(d, 3, 2, 1);
        box(d, 1, "-165 5 20 20");
        Sketch.group(d, 3, 2);
        order(d, "7(3(1) 2)");
        Sketch.ungroup(d, 3);
        order(d, "7(1 2)");
    }

    /** "its box is the least one around those of all that is in it", at whatever depth. */
    private static void boxOfAGroup() {
        AmendedDrawing d = new AmendedDrawing();
        Sketch.make(d, 0, -200, 5, 1, 1);
        Sketch.make(d, 1, 199, 6, 1, 1);
        Sketch.make(d, 2, 7, -200, 1, 1);
        Sketch.make(d, 0, 8, 199, 1, 1);
        Sketch.group(d, 0, 1);
        box(d, 4, "-200 5 400 2");
        Sketch.group(d, 2, 3);
        box(d, 5, "7 -200 2 400");
        Sketch.group(d, 4, 5);
        box(d, 6, "-200 -200 400 400");
        Sketch.delete(d, 1);
        box(d, 6, "-200 -200 209 400");
        box(d, 4, "-200 5 1 1");
    }

    /** "each that stands alone in their order, behind each group at once its members with all that is in them". */
    private static void orderOfAll() {
        AmendedDrawing d = Sketch.squares(6);
        Sketch.group(d, 1, 2);
        Sketch.group(d, 6, 4);
        int[] names = {0, 3, 7, 6, 1, 2, 4, 5};
        int[] parents = {NONE, NONE, NONE, 7, 6, 6, 7, NONE};
        for (int k = 0; k < names.length; k++) {
            CHECK.same("name of " + k, d.object(k, 0), names[k]);
            CHECK.same("parent of " + k, d.object(k, 7), parents[k]);
        }
    }

    /** "colour 0, stands alone, last". */
    private static void makeStandsAloneAndLast() {
        AmendedDrawing d = Sketch.squares(2);
        Sketch.paint(d, 1, 7);
        Sketch.group(d, 0, 1);
        int made = Sketch.make(d, 1, 0, 0, 1, 1);
        order(d, "3(0 1) 4");
        CHECK.same("colour", Sketch.colour(d, made), 0);
        CHECK.same("parent", d.object(3, 7), NONE);
    }

    /** "it is gone, with all that is in it". */
    private static void deleteWithAllThatIsInIt() {
        AmendedDrawing d = Sketch.squares(5);
        Sketch.group(d, 1, 2);
        Sketch.group(d, 5, 3);
        order(d, "0 6(5(1 2) 3) 4");
        Sketch.delete(d, 6);
        order(d, "0 4");
        for (int gone : new int[] {1, 2, 3, 5, 6}) {
            CHECK.fails("DELETE " + gone + ", which is gone", STATE, () -> Sketch.delete(d, gone));
            CHECK.fails("PAINT " + gone + ", which is gone", STATE, () -> Sketch.paint(d, gone, 1));
        }
    }

    /** "a group without members is gone, too", and not before it has none. */
    private static void deleteTheLastMember() {
        AmendedDrawing d = Sketch.squares(4);
        Sketch.group(d, 0, 1);
        Sketch.group(d, 2, 3);
        Sketch.group(d, 4, 5);
        order(d, "6(4(0 1) 5(2 3))");
        Sketch.delete(d, 0);
        order(d, "6(4(1) 5(2 3))");
        Sketch.delete(d, 1);
        order(d, "6(5(2 3))");
        CHECK.fails("DELETE the group that is gone", STATE, () -> Sketch.delete(d, 4));
        Sketch.delete(d, 5);
        CHECK.same("objects", d.objects(), 0);
    }

    /** Seven groups around one shape, each of them with one member alone. */
    private static void deleteTheOnlyOneInManyGroups() {
        AmendedDrawing d = Sketch.squares(1);
        int inner = 0;
        for (int depth = 1; depth <= 7; depth++) {
            int other = Sketch.make(d, 0, 0, 0, 1, 1);
            inner = Sketch.group(d, inner, other);
            Sketch.delete(d, other);
            CHECK.same("objects", d.objects(), depth + 1);
        }
        order(d, "20(17(14(11(8(5(2(0)))))))");
        box(d, 20, "-190 0 10 10");
        Sketch.move(d, 20, 190, 0);
        CHECK.same("hit", d.hit(0, 0), 0);
        Sketch.delete(d, 0);
        CHECK.same("objects when the shape is gone", d.objects(), 0);
    }

    /** A member at the limits, or named before the others, is gone: neither box, limits nor order know it any more. */
    private static void whatIsGoneDoesNotCount() {
        AmendedDrawing d = new AmendedDrawing();
        Sketch.make(d, 0, 0, 0, 10, 10);
        Sketch.make(d, 0, 190, 190, 10, 10);
        Sketch.make(d, 0, -200, -200, 10, 10);
        Sketch.group(d, 0, 1);
        Sketch.group(d, 2, 3);
        order(d, "4(3(0 1) 2)");
        Sketch.delete(d, 2);
        Sketch.delete(d, 1);
        order(d, "4(3(0))");
        box(d, 4, "0 0 10 10");
        Sketch.move(d, 4, 5, 5);
        box(d, 0, "5 5 10 10");
        Sketch.scale(d, 4, 2, 1);
        box(d, 0, "5 5 20 20");
        Sketch.move(d, 3, -200, -200);
        box(d, 4, "-195 -195 20 20");

        AmendedDrawing first = Sketch.squares(3);
        Sketch.delete(first, 0);
        Sketch.move(first, 2, 1, 1);
        box(first, 2, "-149 1 10 10");
        Sketch.scale(first, 2, 2, 1);
        box(first, 2, "-149 1 20 20");
        order(first, "1 2");
    }

    private static void moveByNothing() {
        AmendedDrawing d = Sketch.squares(1);
        CHECK.same("MOVE by 0, 0", Sketch.move(d, 0, 0, 0), 1);
        CHECK.same("effect", d.effect(1), 1);
        box(d, 0, "-190 0 10 10");
    }

    /** "left is L + (left - L) * p / q, top likewise, width is width * p / q, height likewise, all rounded down". */
    private static void scaleIsRoundedDown() {
        AmendedDrawing d = new AmendedDrawing();
        Sketch.make(d, 0, -10, -20, 5, 7);
        Sketch.make(d, 0, -3, -9, 8, 11);
        Sketch.group(d, 0, 1);
        Sketch.scale(d, 2, 2, 3);
        box(d, 0, "-10 -20 3 4");
        box(d, 1, "-6 -13 5 7");
        AmendedDrawing up = new AmendedDrawing();
        Sketch.make(up, 0, -10, -20, 5, 7);
        Sketch.make(up, 0, -3, -9, 8, 11);
        Sketch.group(up, 0, 1);
        Sketch.scale(up, 2, 7, 4);
        box(up, 0, "-10 -20 8 12");
        box(up, 1, "2 -1 14 19");
    }

    /** "but width and height 1 at least". */
    private static void scaleKeepsOneAtLeast() {
        AmendedDrawing d = new AmendedDrawing();
        Sketch.make(d, 0, 0, 0, 8, 9);
        Sketch.scale(d, 0, 1, 9);
        box(d, 0, "0 0 1 1");
        Sketch.scale(d, 0, 1, 9);
        box(d, 0, "0 0 1 1");
        Sketch.scale(d, 0, 2, 1);
        box(d, 0, "0 0 2 2");
        Sketch.scale(d, 0, 8, 9);
        box(d, 0, "0 0 1 1");
        AmendedDrawing high = new AmendedDrawing();
        Sketch.make(high, 0, 0, 0, 27, 5);
        Sketch.scale(high, 0, 1, 9);
        box(high, 0, "0 0 3 1");
    }

    /** "L and T being left and top of a's box before it": not of the group around a. */
    private static void scaleOfAMember() {
        AmendedDrawing d = new AmendedDrawing();
        Sketch.make(d, 0, 0, 0, 10, 10);
        Sketch.make(d, 0, 20, 30, 10, 10);
        Sketch.make(d, 0, 40, 60, 10, 10);
        Sketch.group(d, 1, 2);
        Sketch.group(d, 0, 3);
        Sketch.scale(d, 3, 2, 1);
        box(d, 0, "0 0 10 10");
        box(d, 1, "20 30 20 20");
        box(d, 2, "60 90 20 20");
        Sketch.scale(d, 2, 1, 2);
        box(d, 2, "60 90 10 10");
        Sketch.scale(d, 4, 1, 2);
        box(d, 0, "0 0 5 5");
        box(d, 1, "10 15 10 10");
        box(d, 2, "30 45 5 5");
    }

    /** "all shapes in it have colour c"; a group has none. */
    private static void paintOfAGroup() {
        AmendedDrawing d = Sketch.squares(4);
        Sketch.group(d, 0, 1);
        Sketch.group(d, 4, 2);
        Sketch.paint(d, 5, 6);
        int[] colours = {6, 6, 6, 0, NONE, NONE};
        for (int name = 0; name < colours.length; name++) {
            CHECK.same("colour of " + name, Sketch.colour(d, name), colours[name]);
        }
    }

    /** "it comes to be the first (0) or last (1) in its order". */
    private static void raiseAmongThoseThatStandAlone() {
        AmendedDrawing d = Sketch.squares(4);
        Sketch.raise(d, 0, 0);
        order(d, "0 1 2 3");
        Sketch.raise(d, 3, 1);
        order(d, "0 1 2 3");
        Sketch.raise(d, 0, 1);
        order(d, "1 2 3 0");
        Sketch.raise(d, 3, 0);
        order(d, "3 1 2 0");
        Sketch.group(d, 3, 2);
        order(d, "1 8(3 2) 0");
        Sketch.raise(d, 8, 0);
        order(d, "8(3 2) 1 0");
        Sketch.raise(d, 8, 1);
        order(d, "1 0 8(3 2)");
        Sketch.raise(d, 0, 1);
        order(d, "1 8(3 2) 0");
        Sketch.raise(d, 0, 0);
        order(d, "0 1 8(3 2)");
    }

    /** "(among those of its parent, or those that stand alone)". */
    private static void raiseAmongMembers() {
        AmendedDrawing d = Sketch.squares(5);
        Sketch.group(d, 1, 2);
        Sketch.twice(d, 2, 0, 20);
        order(d, "0 5(1 2 6) 3 4");
        Sketch.raise(d, 1, 1);
        order(d, "0 5(2 6 1) 3 4");
        Sketch.raise(d, 1, 1);
        order(d, "0 5(2 6 1) 3 4");
        Sketch.raise(d, 6, 0);
        order(d, "0 5(6 2 1) 3 4");
        Sketch.raise(d, 6, 0);
        order(d, "0 5(6 2 1) 3 4");
        Sketch.group(d, 5, 3);
        Sketch.raise(d, 5, 1);
        order(d, "0 11(3 5(6 2 1)) 4");
        Sketch.raise(d, 5, 0);
        order(d, "0 11(5(6 2 1) 3) 4");
        Sketch.raise(d, 3, 0);
        order(d, "0 11(3 5(6 2 1)) 4");
    }

    private static void raiseOneThatIsTheOnlyOne() {
        AmendedDrawing d = Sketch.squares(1);
        CHECK.same("RAISE to the first", Sketch.raise(d, 0, 0), 1);
        CHECK.same("RAISE to the last", Sketch.raise(d, 0, 1), 2);
        order(d, "0");
    }

    /** "a group of both, in their order, stands alone where the later one stood", in whichever order they are named. */
    private static void groupWhereTheLaterOneStood() {
        for (int way = 0; way < 2; way++) {
            AmendedDrawing d = Sketch.squares(5);
            Sketch.group(d, way == 0 ? 1 : 3, way == 0 ? 3 : 1);
            order(d, "0 2 5(1 3) 4");
            CHECK.same("parent", d.object(2, 7), NONE);
            AmendedDrawing ends = Sketch.squares(4);
            Sketch.raise(ends, 3, 0);
            Sketch.group(ends, way == 0 ? 3 : 2, way == 0 ? 2 : 3);
            order(ends, "0 1 5(3 2)");
            AmendedDrawing neighbours = Sketch.squares(3);
            Sketch.group(neighbours, way, 1 - way);
            order(neighbours, "3(0 1) 2");
        }
    }

    /** "they are two that stand alone". */
    private static void groupOfWhatDoesNotStandAlone() {
        int[][] pairs = {{3, 3}, {0, 3}, {3, 0}, {0, 1}, {4, 0}, {0, 4}, {4, 4}};
        for (int[] pair : pairs) {
            Watch.refused(CHECK, "GROUP " + pair[0] + " " + pair[1], STATE, KindEdgesTest::twoAndTwo,
                    d -> Sketch.group(d, pair[0], pair[1]));
        }
        CHECK.same("GROUP two that stand alone", Sketch.group(twoAndTwo(), 4, 2), 5);
    }

    /** A group of 0 and 1, then 2 and 3 that stand alone. */
    private static AmendedDrawing twoAndTwo() {
        AmendedDrawing d = Sketch.squares(4);
        Sketch.group(d, 0, 1);
        return d;
    }

    private static void groupOfGroups() {
        AmendedDrawing d = Sketch.squares(5);
        Sketch.group(d, 0, 1);
        Sketch.group(d, 3, 4);
        order(d, "5(0 1) 2 6(3 4)");
        Sketch.group(d, 6, 5);
        order(d, "2 7(5(0 1) 6(3 4))");
        Sketch.group(d, 7, 2);
        order(d, "8(2 7(5(0 1) 6(3 4)))");
    }

    /** "it is gone, its members are in its place (with its parent, in its order)". */
    private static void ungroupInItsPlace() {
        AmendedDrawing d = Sketch.squares(5);
        Sketch.group(d, 1, 2);
        Sketch.group(d, 5, 3);
        order(d, "0 6(5(1 2) 3) 4");
        Sketch.raise(d, 5, 1);
        Sketch.ungroup(d, 5);
        order(d, "0 6(3 1 2) 4");
        CHECK.same("parent", d.object(3, 7), 6);
        Sketch.ungroup(d, 6);
        order(d, "0 3 1 2 4");
        CHECK.same("parent", d.object(2, 7), NONE);
        AmendedDrawing outer = Sketch.squares(5);
        Sketch.group(outer, 1, 2);
        Sketch.group(outer, 5, 3);
        Sketch.ungroup(outer, 6);
        order(outer, "0 5(1 2) 3 4");
        CHECK.same("parent of a member's member", outer.object(2, 7), 5);
        CHECK.same("parent of a member", outer.object(1, 7), NONE);
    }

    /** "7 UNGROUP a: it is a group". */
    private static void ungroupAShape() {
        Watch.refused(CHECK, "UNGROUP a shape", STATE, KindEdgesTest::twoAndTwo, d -> Sketch.ungroup(d, 2));
        Watch.refused(CHECK, "UNGROUP a member", STATE, KindEdgesTest::twoAndTwo, d -> Sketch.ungroup(d, 0));
        Watch.refused(CHECK, "UNGROUP no object", STATE, KindEdgesTest::twoAndTwo, d -> Sketch.ungroup(d, 5));
    }

    /** "another one like it with left x more and top y more comes right behind it in its order (same parent)". */
    private static void doubleRightBehindIt() {
        AmendedDrawing d = new AmendedDrawing();
        Sketch.make(d, 2, 0, 0, 3, 4);
        Sketch.make(d, 1, 0, 0, 5, 6);
        Sketch.paint(d, 0, 7);
        Sketch.twice(d, 0, 0, 0);
        order(d, "0 3 1");
        box(d, 3, "0 0 3 4");
        CHECK.same("form", d.object(1, 1), 2);
        CHECK.same("colour", d.object(1, 6), 7);
        Sketch.twice(d, 1, -1, 1);
        order(d, "0 3 1 4");
        box(d, 4, "-1 1 5 6");
        Sketch.group(d, 0, 1);
        Sketch.twice(d, 1, 2, 0);
        order(d, "3 5(0 1 6) 4");
        Sketch.twice(d, 3, 0, 0);
        order(d, "3 7 5(0 1 6) 4");
        CHECK.same("parent of the double of a member", d.object(5, 7), 5);
        CHECK.same("parent of the double of one that stands alone", d.object(1, 7), NONE);
        Sketch.paint(d, 0, 1);
        CHECK.same("colour of the double when the first is painted", Sketch.colour(d, 3), 7);
    }

    /** "8 DOUBLE a, x, y: it is a shape". */
    private static void doubleOfAGroup() {
        Watch.refused(CHECK, "DOUBLE a group", STATE, KindEdgesTest::twoAndTwo, d -> Sketch.twice(d, 4, 0, 0));
        Watch.refused(CHECK, "DOUBLE no object", STATE, KindEdgesTest::twoAndTwo, d -> Sketch.twice(d, 5, 0, 0));
    }

    /** "the same left (0), top (1), right end (2: left + width) or lower end (3) as that of o". */
    private static void alignEachSide() {
        String[] boxes = {"50 10 20 30", "10 60 20 30", "37 10 20 30", "10 38 20 30"};
        for (int side = 0; side < 4; side++) {
            AmendedDrawing d = new AmendedDrawing();
            Sketch.make(d, 0, 10, 10, 20, 30);
            Sketch.make(d, 0, 50, 60, 7, 8);
            Sketch.align(d, 0, 1, side);
            box(d, 0, boxes[side]);
            box(d, 1, "50 60 7 8");
            order(d, "0 1");
        }
    }

    private static void alignWhereItIs() {
        AmendedDrawing d = new AmendedDrawing();
        Sketch.make(d, 0, 10, 10, 20, 30);
        Sketch.make(d, 1, 10, 10, 20, 30);
        for (int side = 0; side < 4; side++) {
            CHECK.same("ALIGN where it is", Sketch.align(d, 0, 1, side), 2 + side);
            box(d, 0, "10 10 20 30");
        }
    }

    /** "they are two, neither in the other", at whatever depth; two of one group are fine. */
    private static void alignOneWithinTheOther() {
        int[][] pairs = {{2, 2}, {4, 4}, {0, 4}, {4, 0}, {0, 5}, {5, 0}, {4, 5}, {5, 4}};
        for (int[] pair : pairs) {
            Watch.refused(CHECK, "ALIGN " + pair[0] + " " + pair[1], STATE, KindEdgesTest::twoInThree,
                    d -> Sketch.align(d, pair[0], pair[1], 0));
        }
        int[][] fine = {{0, 1}, {0, 2}, {2, 0}, {2, 4}, {0, 3}, {3, 0}, {3, 5}, {5, 3}};
        for (int[] pair : fine) {
            CHECK.same("ALIGN " + pair[0] + " " + pair[1], Sketch.align(twoInThree(), pair[0], pair[1], 1), 6);
        }
    }

    /** "5(4(0 1) 2) 3". */
    private static AmendedDrawing twoInThree() {
        AmendedDrawing d = twoAndTwo();
        Sketch.group(d, 4, 2);
        return d;
    }

    /** "DONE when the objects that it names are there at its turn": one that comes later is not. */
    private static void notThereAtItsTurn() {
        AmendedDrawing d = Sketch.squares(1);
        int paint = Sketch.paint(d, 0, 5);
        int later = Sketch.make(d, 0, 0, 0, 1, 1);
        d.amend(paint, 0, later);
        CHECK.same("effect of PAINT on a later one", d.effect(paint), 2);
        CHECK.same("colour of the later one", Sketch.colour(d, later), 0);
        CHECK.same("colour of the earlier one", Sketch.colour(d, 0), 0);
        d.amend(paint, 0, paint);
        CHECK.same("effect of PAINT on its own number", d.effect(paint), 2);
        AmendedDrawing twin = Sketch.squares(1);
        Sketch.twice(twin, 0, 0, 20);
        twin.amend(1, 0, 1);
        CHECK.same("effect of DOUBLE of its own number", twin.effect(1), 2);
        CHECK.same("objects", twin.objects(), 1);
        AmendedDrawing group = Sketch.squares(2);
        Sketch.group(group, 0, 1);
        group.amend(2, 1, 2);
        CHECK.same("effect of GROUP of its own number", group.effect(2), 2);
        order(group, "0 1");
    }

    /** "5(4(0 1) 2) 3" with 0 near one corner and 2 near the other, and 3 as small as can be; action 6 is for a test. */
    private static AmendedDrawing cornerToCorner(int kind, int a, int b, int c) {
        AmendedDrawing d = new AmendedDrawing();
        Sketch.make(d, 0, -199, -199, 10, 10);
        Sketch.make(d, 1, 0, 0, 20, 20);
        Sketch.make(d, 2, 189, 189, 10, 10);
        Sketch.make(d, 0, 0, 0, 1, 1);
        Sketch.group(d, 0, 1);
        Sketch.group(d, 4, 2);
        d.commit(kind, a, b, c, 0);
        return d;
    }

    /** "otherwise it is WITHOUT EFFECT, and changes nothing": as if it was withdrawn, of each kind but for its effect. */
    private static void withoutEffectChangesNothing() {
        int[][] amends = {
            {1, 3, 0, 0, 0, 6}, {2, 5, 1, 1, 1, 2}, {2, 5, 1, 1, 2, -2}, {3, 5, 1, 1, 1, 2}, {4, 5, 7, 0, 0, 23},
            {5, 3, 0, 0, 0, 7}, {6, 3, 5, 0, 1, 4}, {6, 3, 5, 0, 0, 5}, {7, 5, 0, 0, 0, 3}, {8, 3, 1, 1, 0, 4},
            {8, 1, 1, 1, 1, 181}, {9, 3, 5, 0, 1, 3}, {9, 3, 5, 0, 0, 0}, {9, 2, 1, 0, 0, 5},
        };
        for (int[] v : amends) {
            AmendedDrawing d = cornerToCorner(v[0], v[1], v[2], v[3]);
            CHECK.same("effect of kind " + v[0], d.effect(6), 1);
            d.amend(6, v[4], v[5]);
            CHECK.same("effect of kind " + v[0] + " with " + v[5], d.effect(6), 2);
            String without = objects(d);
            d.withdraw(6);
            CHECK.text("objects without kind " + v[0], without, objects(d));
            CHECK.text("order", Sketch.order(d), "5(4(0 1) 2) 3");
        }
    }

    private static String objects(AmendedDrawing d) {
        StringBuilder text = new StringBuilder();
        for (int k = 0; k < d.objects(); k++) {
            for (int what = 0; what <= 7; what++) {
                text.append(d.object(k, what)).append(' ');
            }
        }
        return text.toString();
    }

    /** "later actions that have lost what they were about are without effect until that comes back". */
    private static void withoutEffectUntilItComesBack() {
        AmendedDrawing d = Sketch.squares(2);
        Sketch.group(d, 0, 1);
        Sketch.move(d, 2, 10, 10);
        Sketch.twice(d, 1, 0, 30);
        Sketch.paint(d, 4, 3);
        String before = Watch.state(d);
        CHECK.same("withdraw", d.withdraw(1), 4);
        order(d, "0");
        box(d, 0, "-190 0 10 10");
        CHECK.same("reinstate", d.reinstate(1), 4);
        CHECK.text("state", Watch.state(d), before);
        d.amend(1, 1, 200);
        CHECK.same("effect", d.effect(1), 2);
        for (int n = 2; n <= 5; n++) {
            CHECK.same("effect of " + n, d.effect(n), 2);
        }
        d.amend(1, 1, -170);
        CHECK.text("state", Watch.state(d), before);
    }
}
