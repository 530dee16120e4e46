/**
 * "LIMITS: there are at most 12 objects, groups counted; of each shape left and top are -200 at least,
 * left + width and top + height 200 at most." Each kind that could go beyond, at the limit and one beyond it.
 */
public final class LimitEdgesTest {
    private static final Check CHECK = new Check();
    private static final Class<IllegalStateException> STATE = IllegalStateException.class;

    public static void main(String[] args) {
        makeAtTheLimits();
        makeOneBeyond();
        amendedMakeBeyondIsWithoutEffect();
        moveToTheLimits();
        moveOneBeyond();
        moveOfAGroupWithOneMemberBeyond();
        scaleToTheLimits();
        scaleRoundedDownToTheLimits();
        scaleOfAGroupWithOneMemberBeyond();
        doubleToTheLimits();
        doubleOneBeyond();
        alignToTheLimits();
        alignOneBeyond();
        alignOfAGroupWithOneMemberBeyond();
        noObjects();
        twelveShapes();
        twelveWithGroups();
        twelveWithADouble();
        atTwelveOthersAreDone();
        roomComesBack();
        thirteenthThatComesBack();
        CHECK.end("LimitEdgesTest");
    }

    private static AmendedDrawing one(int x, int y, int width, int height) {
        AmendedDrawing d = new AmendedDrawing();
        Sketch.make(d, 0, x, y, width, height);
        return d;
    }

    private static void box(AmendedDrawing d, int name, String want) {
        CHECK.text("box of " + name, Sketch.box(d, name), want);
    }

    private static void makeAtTheLimits() {
        int[][] boxes = {
            {-200, 0, 1, 1}, {0, -200, 1, 1}, {199, 0, 1, 1}, {0, 199, 1, 1},
            {100, 0, 100, 1}, {0, 100, 1, 100}, {-200, -200, 100, 100}, {100, 100, 100, 100},
        };
        for (int shape = 0; shape <= 2; shape++) {
            for (int[] b : boxes) {
                AmendedDrawing d = new AmendedDrawing();
                CHECK.same("made", Sketch.make(d, shape, b[0], b[1], b[2], b[3]), 0);
                box(d, 0, b[0] + " " + b[1] + " " + b[2] + " " + b[3]);
            }
        }
    }

    private static void makeOneBeyond() {
        int[][] boxes = {
            {200, 0, 1, 1}, {0, 200, 1, 1}, {199, 0, 2, 1}, {0, 199, 1, 2},
            {101, 0, 100, 1}, {0, 101, 1, 100}, {200, 200, 100, 100},
        };
        for (int[] b : boxes) {
            Watch.refused(CHECK, "MAKE " + b[0] + " " + b[1] + " " + b[2] + " " + b[3], STATE, Sketch::busy,
                    d -> Sketch.make(d, 0, b[0], b[1], b[2], b[3]));
        }
    }

    private static void amendedMakeBeyondIsWithoutEffect() {
        AmendedDrawing d = one(0, 0, 1, 1);
        int[][] amends = {{1, 199, 1}, {1, 200, 2}, {1, 0, 1}, {2, 199, 1}, {2, 200, 2}, {2, -200, 1}};
        for (int[] a : amends) {
            d.amend(0, a[0], a[1]);
            CHECK.same("effect with argument " + a[0] + " as " + a[1], d.effect(0), a[2]);
            CHECK.same("objects", d.objects(), a[2] == 1 ? 1 : 0);
        }
    }

    private static void moveToTheLimits() {
        int[][] moves = {{-110, 0}, {190, 0}, {0, -120}, {0, 180}, {-110, 180}};
        for (int[] m : moves) {
            AmendedDrawing d = one(-90, -80, 100, 100);
            Sketch.move(d, 0, m[0], m[1]);
            box(d, 0, (m[0] - 90) + " " + (m[1] - 80) + " 100 100");
        }
    }

    private static void moveOneBeyond() {
        int[][] moves = {{-111, 0}, {191, 0}, {0, -121}, {0, 181}, {-111, 180}, {190, 181}};
        for (int[] m : moves) {
            Watch.refused(CHECK, "MOVE by " + m[0] + " " + m[1], STATE, () -> one(-90, -80, 100, 100),
                    d -> Sketch.move(d, 0, m[0], m[1]));
        }
    }

    /** Of a group in a group only the first, or only the last, reaches a limit. */
    private static AmendedDrawing nested() {
        AmendedDrawing d = new AmendedDrawing();
        Sketch.make(d, 0, -190, -180, 10, 10);
        Sketch.make(d, 1, 0, 0, 10, 10);
        Sketch.make(d, 2, 170, 160, 10, 10);
        Sketch.group(d, 0, 1);
        Sketch.group(d, 3, 2);
        return d;
    }

    private static void moveOfAGroupWithOneMemberBeyond() {
        for (int[] m : new int[][] {{-10, 0}, {20, 0}, {0, -20}, {0, 30}}) {
            AmendedDrawing d = nested();
            CHECK.same("MOVE to the limit", Sketch.move(d, 4, m[0], m[1]), 5);
            box(d, 0, (m[0] - 190) + " " + (m[1] - 180) + " 10 10");
            box(d, 2, (m[0] + 170) + " " + (m[1] + 160) + " 10 10");
        }
        for (int[] m : new int[][] {{-11, 0}, {21, 0}, {0, -21}, {0, 31}}) {
            Watch.refused(CHECK, "MOVE a group by " + m[0] + " " + m[1], STATE, LimitEdgesTest::nested,
                    d -> Sketch.move(d, 4, m[0], m[1]));
        }
    }

    private static void scaleToTheLimits() {
        AmendedDrawing right = one(100, 0, 50, 1);
        Sketch.scale(right, 0, 2, 1);
        box(right, 0, "100 0 100 2");
        AmendedDrawing lower = one(0, 100, 1, 50);
        Sketch.scale(lower, 0, 2, 1);
        box(lower, 0, "0 100 2 100");
        AmendedDrawing all = one(-200, -200, 100, 100);
        Sketch.scale(all, 0, 4, 1);
        box(all, 0, "-200 -200 400 400");
        Watch.refused(CHECK, "SCALE to the right end 201", STATE, () -> one(101, 0, 50, 1),
                d -> Sketch.scale(d, 0, 2, 1));
        Watch.refused(CHECK, "SCALE to the lower end 201", STATE, () -> one(0, 101, 1, 50),
                d -> Sketch.scale(d, 0, 2, 1));
        Watch.refused(CHECK, "SCALE by 9", STATE, () -> one(-200, -200, 100, 100), d -> Sketch.scale(d, 0, 9, 1));
    }

    /** 67 * 3 / 2 is 100 and a half, which is 100 rounded down; of 68 it is 102. */
    private static void scaleRoundedDownToTheLimits() {
        AmendedDrawing d = one(100, 100, 67, 67);
        Sketch.scale(d, 0, 3, 2);
        box(d, 0, "100 100 100 100");
        Watch.refused(CHECK, "SCALE to the right end 202", STATE, () -> one(100, 100, 68, 67),
                e -> Sketch.scale(e, 0, 3, 2));
        Watch.refused(CHECK, "SCALE to the lower end 202", STATE, () -> one(100, 100, 67, 68),
                e -> Sketch.scale(e, 0, 3, 2));
    }

    private static AmendedDrawing pair(int left, int top) {
        AmendedDrawing d = new AmendedDrawing();
        Sketch.make(d, 0, 0, 0, 10, 10);
        Sketch.make(d, 0, left, top, 10, 10);
        Sketch.group(d, 0, 1);
        return d;
    }

    private static void scaleOfAGroupWithOneMemberBeyond() {
        AmendedDrawing d = pair(90, 90);
        Sketch.scale(d, 2, 2, 1);
        box(d, 0, "0 0 20 20");
        box(d, 1, "180 180 20 20");
        Watch.refused(CHECK, "SCALE a group too wide", STATE, () -> pair(91, 0), e -> Sketch.scale(e, 2, 2, 1));
        Watch.refused(CHECK, "SCALE a group too high", STATE, () -> pair(0, 91), e -> Sketch.scale(e, 2, 2, 1));
    }

    private static void doubleToTheLimits() {
        for (int[] m : new int[][] {{-110, 0}, {190, 0}, {0, -120}, {0, 180}}) {
            AmendedDrawing d = one(-90, -80, 100, 100);
            CHECK.same("DOUBLE to the limit", Sketch.twice(d, 0, m[0], m[1]), 1);
            box(d, 1, (m[0] - 90) + " " + (m[1] - 80) + " 100 100");
            box(d, 0, "-90 -80 100 100");
        }
    }

    private static void doubleOneBeyond() {
        for (int[] m : new int[][] {{-111, 0}, {191, 0}, {0, -121}, {0, 181}}) {
            Watch.refused(CHECK, "DOUBLE by " + m[0] + " " + m[1], STATE, () -> one(-90, -80, 100, 100),
                    d -> Sketch.twice(d, 0, m[0], m[1]));
        }
    }

    /** Shape 0 of 50 times 60, and a smaller one that it is to be aligned with. */
    private static AmendedDrawing bigAndSmall(int left, int top) {
        AmendedDrawing d = one(0, 0, 50, 60);
        Sketch.make(d, 1, left, top, 10, 10);
        return d;
    }

    private static void alignToTheLimits() {
        AmendedDrawing left = bigAndSmall(150, 0);
        Sketch.align(left, 0, 1, 0);
        box(left, 0, "150 0 50 60");
        AmendedDrawing top = bigAndSmall(0, 140);
        Sketch.align(top, 0, 1, 1);
        box(top, 0, "0 140 50 60");
        AmendedDrawing right = bigAndSmall(-160, 0);
        Sketch.align(right, 0, 1, 2);
        box(right, 0, "-200 0 50 60");
        AmendedDrawing lower = bigAndSmall(0, -150);
        Sketch.align(lower, 0, 1, 3);
        box(lower, 0, "0 -200 50 60");
    }

    private static void alignOneBeyond() {
        int[][] places = {{151, 0}, {0, 141}, {-161, 0}, {0, -151}};
        for (int side = 0; side < 4; side++) {
            int e = side;
            Watch.refused(CHECK, "ALIGN side " + side, STATE, () -> bigAndSmall(places[e][0], places[e][1]),
                    d -> Sketch.align(d, 0, 1, e));
        }
    }

    private static void alignOfAGroupWithOneMemberBeyond() {
        for (int left : new int[] {-200, -170, -169}) {
            AmendedDrawing d = nested();
            Sketch.make(d, 0, left, 0, 1, 1);
            if (left == -169) {
                CHECK.fails("ALIGN a group beyond", STATE, () -> Sketch.align(d, 4, 5, 0));
                box(d, 0, "-190 -180 10 10");
                box(d, 2, "170 160 10 10");
            } else {
                CHECK.same("ALIGN a group within", Sketch.align(d, 4, 5, 0), 6);
                box(d, 0, left + " -180 10 10");
                CHECK.same("left of the last", d.inside(left + 360, 160, left + 370, 170, 0), 2);
            }
        }
    }

    private static void noObjects() {
        AmendedDrawing d = new AmendedDrawing();
        CHECK.same("objects", d.objects(), 0);
        Sketch.make(d, 0, 0, 0, 1, 1);
        CHECK.same("objects", d.objects(), 1);
        Sketch.delete(d, 0);
        CHECK.same("objects", d.objects(), 0);
        for (int kind = 1; kind <= 9; kind++) {
            int asked = kind;
            CHECK.fails("kind " + kind + " on no objects", STATE, () -> d.commit(asked, 0, 1, 1, 0));
        }
    }

    private static void twelveShapes() {
        AmendedDrawing d = Sketch.squares(11);
        CHECK.same("a 12th", Sketch.make(d, 2, 0, 50, 1, 1), 11);
        CHECK.same("objects", d.objects(), 12);
        Watch.refused(CHECK, "a 13th by MAKE", STATE, () -> Sketch.squares(12), e -> Sketch.make(e, 2, 0, 50, 1, 1));
        Watch.refused(CHECK, "a 13th by GROUP", STATE, () -> Sketch.squares(12), e -> Sketch.group(e, 0, 1));
        Watch.refused(CHECK, "a 13th by DOUBLE", STATE, () -> Sketch.squares(12), e -> Sketch.twice(e, 0, 0, 20));
    }

    /** Seven shapes and five groups, each group in the next. */
    private static AmendedDrawing sevenAndFive() {
        AmendedDrawing d = Sketch.squares(7);
        int inner = 0;
        for (int k = 1; k <= 5; k++) {
            inner = Sketch.group(d, inner, k);
        }
        return d;
    }

    private static void twelveWithGroups() {
        AmendedDrawing eleven = Sketch.squares(11);
        CHECK.same("a 12th by GROUP", Sketch.group(eleven, 3, 8), 11);
        CHECK.same("objects", eleven.objects(), 12);
        AmendedDrawing d = sevenAndFive();
        CHECK.same("objects", d.objects(), 12);
        CHECK.text("order", Sketch.order(d), "11(10(9(8(7(0 1) 2) 3) 4) 5) 6");
        Watch.refused(CHECK, "a 13th by MAKE", STATE, LimitEdgesTest::sevenAndFive,
                e -> Sketch.make(e, 2, 0, 50, 1, 1));
        Watch.refused(CHECK, "a 13th by GROUP", STATE, LimitEdgesTest::sevenAndFive, e -> Sketch.group(e, 11, 6));
        Watch.refused(CHECK, "a 13th by DOUBLE", STATE, LimitEdgesTest::sevenAndFive,
                e -> Sketch.twice(e, 0, 0, 20));
    }

    private static void twelveWithADouble() {
        AmendedDrawing d = Sketch.squares(11);
        CHECK.same("a 12th by DOUBLE", Sketch.twice(d, 10, 0, 20), 11);
        CHECK.same("objects", d.objects(), 12);
        CHECK.text("order", Sketch.order(d), "0 1 2 3 4 5 6 7 8 9 10 11");
    }

    private static void atTwelveOthersAreDone() {
        AmendedDrawing d = sevenAndFive();
        Sketch.move(d, 11, 1, 1);
        Sketch.scale(d, 11, 1, 1);
        Sketch.paint(d, 11, 3);
        Sketch.raise(d, 11, 1);
        Sketch.align(d, 6, 11, 1);
        CHECK.text("order", Sketch.order(d), "6 11(10(9(8(7(0 1) 2) 3) 4) 5)");
        CHECK.same("the last in the order of all", d.object(11, 0), 5);
        CHECK.same("objects", d.objects(), 12);
    }

    private static void roomComesBack() {
        AmendedDrawing byDelete = Sketch.squares(12);
        Sketch.delete(byDelete, 5);
        CHECK.same("MAKE behind DELETE", Sketch.make(byDelete, 0, 0, 50, 1, 1), 13);
        CHECK.fails("another one", STATE, () -> Sketch.make(byDelete, 0, 0, 50, 1, 1));
        AmendedDrawing byUngroup = sevenAndFive();
        Sketch.ungroup(byUngroup, 9);
        CHECK.same("GROUP behind UNGROUP", Sketch.group(byUngroup, 6, 11), 13);
        CHECK.fails("another one", STATE, () -> Sketch.twice(byUngroup, 0, 0, 1));
        AmendedDrawing lastOfAll = Sketch.squares(11);
        Sketch.group(lastOfAll, 9, 10);
        Sketch.ungroup(lastOfAll, 11);
        CHECK.text("order", Sketch.order(lastOfAll), "0 1 2 3 4 5 6 7 8 9 10");
        CHECK.same("MAKE behind UNGROUP of the last", Sketch.make(lastOfAll, 0, 0, 50, 1, 1), 13);
        AmendedDrawing byGroupDelete = sevenAndFive();
        Sketch.delete(byGroupDelete, 11);
        CHECK.text("order", Sketch.order(byGroupDelete), "6");
    }

    private static void thirteenthThatComesBack() {
        AmendedDrawing d = Sketch.squares(12);
        d.withdraw(4);
        int last = Sketch.make(d, 1, 0, 50, 1, 1);
        int paint = Sketch.paint(d, last, 1);
        CHECK.same("reinstate: MAKE and PAINT lose their effect", d.reinstate(4), 2);
        CHECK.same("effect of the 13th", d.effect(last), 2);
        CHECK.same("effect of what was about it", d.effect(paint), 2);
        CHECK.same("objects", d.objects(), 12);
        CHECK.same("withdraw another: they come back", d.withdraw(0), 2);
        CHECK.same("effect of the 13th", d.effect(last), 1);
        CHECK.same("objects", d.objects(), 12);
    }
}
