/** The boundary cases of promises 15 to 17: what a shape covers, what is shown, and what lies in a box. */
public final class PlaceEdgesTest {
    private static final Check CHECK = new Check();
    private static final Class<IllegalArgumentException> ARGUMENT = IllegalArgumentException.class;
    private static final int NONE = AmendedDrawing.NONE;
    private static final int MIN = Integer.MIN_VALUE;
    private static final int MAX = Integer.MAX_VALUE;

    public static void main(String[] args) {
        promise15SmallestOfEachShape();
        promise15RectangleToItsEnds();
        promise15EllipsesOfAllSizes();
        promise15DiamondsOfAllSizes();
        promise15DiamondJustNotAbove();
        promise15Widest();
        promise15AtTheLimits();
        promise15FarPlaces();
        promise15NoneAndTheLatest();
        promise16From1To8();
        promise16NotFrom1To8();
        promise16EachColour();
        promise16NoSuchColour();
        promise16LeastNumbers();
        promise16FarPlaces();
        promise17ExactlyTheBox();
        promise17NotSoMany();
        promise17TwelveShapes();
        promise17NoGroups();
        promise17FarPlaces();
        promise17NoPlacesAtAll();
        CHECK.end("PlaceEdgesTest");
    }

    private static AmendedDrawing one(int shape, int x, int y, int width, int height) {
        AmendedDrawing d = new AmendedDrawing();
        Sketch.make(d, shape, x, y, width, height);
        return d;
    }

    /** A shape of 1 times 1 covers one place, whichever it is. */
    private static void promise15SmallestOfEachShape() {
        for (int shape = 0; shape <= 2; shape++) {
            AmendedDrawing d = one(shape, -5, 7, 1, 1);
            for (int x = -6; x <= -4; x++) {
                for (int y = 6; y <= 8; y++) {
                    CHECK.same("hit(" + x + ", " + y + ")", d.hit(x, y), x == -5 && y == 7 ? 0 : NONE);
                }
            }
        }
    }

    /** "left <= x < left + width, top <= y < top + height". */
    private static void promise15RectangleToItsEnds() {
        AmendedDrawing d = one(0, -7, 3, 12, 5);
        int[][] corners = {{-7, 3}, {4, 3}, {-7, 7}, {4, 7}};
        for (int[] c : corners) {
            CHECK.same("hit(" + c[0] + ", " + c[1] + ")", d.hit(c[0], c[1]), 0);
        }
        int[][] outside = {{-8, 3}, {5, 3}, {-7, 2}, {-7, 8}, {4, 2}, {4, 8}, {-8, 7}, {5, 7}};
        for (int[] c : outside) {
            CHECK.same("hit(" + c[0] + ", " + c[1] + ")", d.hit(c[0], c[1]), NONE);
        }
    }

    /** The document's words for a shape at (-3, 2), with all numbers far within a long. */
    private static boolean covers(int shape, long x, long y, long w, long h) {
        long u = 2 * (x + 3) + 1 - w;
        long v = 2 * (y - 2) + 1 - h;
        boolean within = -3 <= x && x < w - 3 && 2 <= y && y < h + 2;
        boolean round = u * u * h * h + v * v * w * w <= w * w * h * h;
        boolean pointed = Math.abs(u) * h + Math.abs(v) * w <= w * h;
        return within && (shape == 0 || (shape == 1 ? round : pointed));
    }

    private static void allPlaces(int shape, int w, int h) {
        AmendedDrawing d = one(shape, -3, 2, w, h);
        for (int x = -4; x <= w - 3; x++) {
            for (int y = 1; y <= h + 2; y++) {
                CHECK.same("hit(" + x + ", " + y + ") of " + shape + ", " + w + " times " + h,
                        d.hit(x, y), covers(shape, x, y, w, h) ? 0 : NONE);
            }
        }
    }

    private static void promise15EllipsesOfAllSizes() {
        for (int w = 1; w <= 15; w++) {
            for (int h = 1; h <= 15; h++) {
                allPlaces(1, w, h);
            }
        }
        allPlaces(1, 100, 1);
        allPlaces(1, 1, 100);
        allPlaces(1, 2, 100);
    }

    private static void promise15DiamondsOfAllSizes() {
        for (int w = 1; w <= 15; w++) {
            for (int h = 1; h <= 15; h++) {
                allPlaces(2, w, h);
            }
        }
        allPlaces(2, 100, 1);
        allPlaces(2, 1, 100);
        allPlaces(2, 100, 2);
    }

    /** Of 2 times 6 at (0, 0): u is 1 and v is 3 there, 1 * 6 + 3 * 2 is 12, as 2 * 6 is; one place up it is 16. */
    private static void promise15DiamondJustNotAbove() {
        AmendedDrawing d = one(2, 0, 0, 2, 6);
        CHECK.same("just not above", d.hit(1, 4), 0);
        CHECK.same("just not above", d.hit(0, 1), 0);
        CHECK.same("above", d.hit(1, 5), NONE);
        CHECK.same("above", d.hit(0, 0), NONE);
    }

    private static AmendedDrawing widest(int shape) {
        AmendedDrawing d = one(shape, -200, -200, 100, 100);
        Sketch.scale(d, 0, 4, 1);
        return d;
    }

    /** A shape of 400 times 400, the widest there is: its numbers are beyond an int. */
    private static void promise15Widest() {
        for (int shape = 1; shape <= 2; shape++) {
            for (int x = -200; x < 200; x += 19) {
                AmendedDrawing d = widest(shape);
                for (int y = -200; y < 200; y++) {
                    int u = Math.abs(2 * x + 1);
                    int v = Math.abs(2 * y + 1);
                    boolean in = shape == 1 ? u * u + v * v <= 400 * 400 : u + v <= 400;
                    CHECK.same("hit(" + x + ", " + y + ")", d.hit(x, y), in ? 0 : NONE);
                }
            }
        }
    }

    private static void promise15AtTheLimits() {
        AmendedDrawing d = widest(0);
        for (int[] at : new int[][] {{-200, -200}, {199, -200}, {-200, 199}, {199, 199}}) {
            CHECK.same("hit(" + at[0] + ", " + at[1] + ")", d.hit(at[0], at[1]), 0);
        }
        for (int[] at : new int[][] {{-201, 0}, {200, 0}, {0, -201}, {0, 200}}) {
            CHECK.same("hit(" + at[0] + ", " + at[1] + ")", d.hit(at[0], at[1]), NONE);
        }
    }

    /** Numbers of which twice, or the difference to left, is no int any more. */
    private static void promise15FarPlaces() {
        int[] far = {MIN, MIN + 1, MIN / 2, MIN / 2 - 200, MAX / 2, MAX / 2 + 200, MAX - 1, MAX, 1 << 16, -(1 << 16)};
        for (int shape = 0; shape <= 2; shape++) {
            AmendedDrawing d = widest(shape);
            for (int there : far) {
                CHECK.same("hit(" + there + ", 0)", d.hit(there, 0), NONE);
                CHECK.same("hit(0, " + there + ")", d.hit(0, there), NONE);
                CHECK.same("hit(" + there + ", " + there + ")", d.hit(there, there), NONE);
            }
        }
    }

    /** "The name of the latest shape in the order of all that covers a place; NONE when there is none." */
    private static void promise15NoneAndTheLatest() {
        AmendedDrawing d = new AmendedDrawing();
        CHECK.same("hit of nothing", d.hit(0, 0), NONE);
        for (int k = 0; k < 12; k++) {
            Sketch.make(d, 0, 0, 0, 12 - k, 1);
        }
        for (int x = 0; x < 12; x++) {
            CHECK.same("hit(" + x + ", 0)", d.hit(x, 0), 11 - x);
        }
        CHECK.same("hit(12, 0)", d.hit(12, 0), NONE);
        Sketch.raise(d, 0, 1);
        CHECK.same("hit(0, 0) behind RAISE", d.hit(0, 0), 0);
        d.withdraw(12);
        d.withdraw(11);
        CHECK.same("hit(0, 0) when the latest is withdrawn", d.hit(0, 0), 10);
    }

    /** "Of n times n places". */
    private static void promise16From1To8() {
        AmendedDrawing d = one(0, 0, 0, 100, 100);
        for (int n = 1; n <= 8; n++) {
            CHECK.same("shown within, n = " + n, d.shown(50, 50, n, 0), n * n);
            CHECK.same("shown of none within, n = " + n, d.shown(50, 50, n, NONE), 0);
            CHECK.same("shown outside, n = " + n, d.shown(100, 100, n, NONE), n * n);
            CHECK.same("shown over the corner, n = " + n, d.shown(99, 99, n, 0), 1);
            CHECK.same("shown over the corner, n = " + n, d.shown(99, 99, n, NONE), n * n - 1);
            CHECK.same("shown over the other corner, n = " + n, d.shown(1 - n, 1 - n, n, 0), 1);
        }
    }

    /** "IllegalArgumentException when n is not 1 .. 8", whatever the place and the colour are. */
    private static void promise16NotFrom1To8() {
        for (int n : new int[] {0, 9, -1, -8, MIN, MAX}) {
            Watch.refused(CHECK, "shown(0, 0, " + n + ", 0)", ARGUMENT, Sketch::busy, d -> d.shown(0, 0, n, 0));
            Watch.refused(CHECK, "shown(MAX, MIN, " + n + ", MAX)", ARGUMENT, Sketch::busy,
                    d -> d.shown(MAX, MIN, n, MAX));
            Watch.refused(CHECK, "shown(0, 0, " + n + ", NONE) of nothing", ARGUMENT, AmendedDrawing::new,
                    d -> d.shown(0, 0, n, NONE));
        }
    }

    /** "how many show a colour, that of the shape that hit names (NONE: none)". */
    private static void promise16EachColour() {
        AmendedDrawing d = new AmendedDrawing();
        for (int k = 0; k < 8; k++) {
            Sketch.make(d, 0, k, 0, 8 - k, 1);
            Sketch.paint(d, 2 * k, k);
        }
        for (int colour = 0; colour <= 7; colour++) {
            CHECK.same("shown of colour " + colour, d.shown(0, 0, 8, colour), 1);
            CHECK.same("its place", d.shown(colour, 0, 1, colour), 1);
        }
        CHECK.same("shown of none", d.shown(0, 0, 8, NONE), 56);
    }

    /** A colour that is none is shown nowhere, neither in a shape nor beside it. */
    private static void promise16NoSuchColour() {
        AmendedDrawing d = one(0, 0, 0, 4, 4);
        for (int colour : new int[] {-2, 8, MIN, MAX}) {
            CHECK.same("shown of colour " + colour, d.shown(0, 0, 8, colour), 0);
        }
        CHECK.same("shown of colour 0", d.shown(0, 0, 8, 0), 16);
    }

    /** "(x, y) being the one with the least numbers". */
    private static void promise16LeastNumbers() {
        AmendedDrawing d = one(0, 10, 20, 1, 1);
        for (int x = 2; x <= 11; x++) {
            for (int y = 12; y <= 21; y++) {
                boolean in = x >= 3 && x <= 10 && y >= 13 && y <= 20;
                CHECK.same("shown(" + x + ", " + y + ", 8, 0)", d.shown(x, y, 8, 0), in ? 1 : 0);
            }
        }
        CHECK.same("x alone beyond", d.shown(10, 20, 2, 0), 1);
        CHECK.same("one to the left", d.shown(9, 20, 2, 0), 1);
        CHECK.same("two to the left", d.shown(8, 20, 2, 0), 0);
        CHECK.same("one to the right", d.shown(11, 20, 2, 0), 0);
    }

    /** Places beyond the ends of int: they show nothing, and no sum comes round to where a shape is. */
    private static void promise16FarPlaces() {
        for (int shape = 0; shape <= 2; shape++) {
            AmendedDrawing d = widest(shape);
            for (int far : new int[] {MAX, MAX - 6, MAX - 7, MAX - 8, MIN, MIN + 1}) {
                CHECK.same("shown(" + far + ", 0, 8, 0)", d.shown(far, 0, 8, 0), 0);
                CHECK.same("shown(0, " + far + ", 8, NONE)", d.shown(0, far, 8, NONE), 64);
                CHECK.same("shown(" + far + ", " + far + ", 8, NONE)", d.shown(far, far, 8, NONE), 64);
                CHECK.same("shown(" + far + ", 0, 1, NONE)", d.shown(far, 0, 1, NONE), 1);
            }
        }
        AmendedDrawing d = widest(0);
        CHECK.same("shown over the left limit", d.shown(-204, 0, 8, 0), 32);
        CHECK.same("shown over the right limit", d.shown(196, 0, 8, 0), 32);
        CHECK.same("shown over the upper limit", d.shown(0, -207, 8, 0), 8);
        CHECK.same("shown over the lower limit", d.shown(0, 199, 8, 0), 8);
    }

    /** "whose box lies in that from (x0, y0) to before (x1, y1)". */
    private static void promise17ExactlyTheBox() {
        for (int shape = 0; shape <= 2; shape++) {
            AmendedDrawing d = one(shape, -5, 7, 3, 4);
            CHECK.same("exactly", d.inside(-5, 7, -2, 11, 0), 0);
            CHECK.same("one more on each side", d.inside(-6, 6, -1, 12, 0), 0);
            CHECK.same("left one less", d.inside(-4, 7, -2, 11, 0), NONE);
            CHECK.same("top one less", d.inside(-5, 8, -2, 11, 0), NONE);
            CHECK.same("right one less", d.inside(-5, 7, -3, 11, 0), NONE);
            CHECK.same("lower one less", d.inside(-5, 7, -2, 10, 0), NONE);
        }
        CHECK.same("the widest", widest(0).inside(-200, -200, 200, 200, 0), 0);
        CHECK.same("the widest, one less", widest(0).inside(-200, -200, 200, 199, 0), NONE);
    }

    /** "The name of the k-th shape (from 0; no groups)"; "NONE when there are not so many". */
    private static void promise17NotSoMany() {
        AmendedDrawing d = Sketch.squares(3);
        CHECK.same("k = 0", d.inside(-200, 0, 0, 10, 0), 0);
        CHECK.same("k = 2", d.inside(-200, 0, 0, 10, 2), 2);
        for (int k : new int[] {3, 4, 12, MAX, -1, -2, MIN}) {
            CHECK.same("k = " + k, d.inside(-200, 0, 0, 10, k), NONE);
        }
        CHECK.same("the second of those inside", d.inside(-180, 0, 0, 10, 1), 2);
        CHECK.same("of nothing", new AmendedDrawing().inside(MIN, MIN, MAX, MAX, 0), NONE);
    }

    private static void promise17TwelveShapes() {
        AmendedDrawing d = Sketch.squares(12);
        for (int k = 0; k < 12; k++) {
            CHECK.same("k = " + k, d.inside(-200, -200, 200, 200, k), k);
        }
        CHECK.same("k = 12", d.inside(-200, -200, 200, 200, 12), NONE);
        Sketch.raise(d, 0, 1);
        CHECK.same("k = 0 in the order of all", d.inside(-200, -200, 200, 200, 0), 1);
        CHECK.same("k = 11 in the order of all", d.inside(-200, -200, 200, 200, 11), 0);
    }

    private static void promise17NoGroups() {
        AmendedDrawing d = Sketch.squares(3);
        Sketch.group(d, 1, 2);
        Sketch.group(d, 3, 0);
        int[] names = {0, 1, 2, NONE};
        for (int k = 0; k < names.length; k++) {
            CHECK.same("k = " + k, d.inside(-200, -200, 200, 200, k), names[k]);
        }
        CHECK.same("a member alone, its group's box is not inside", d.inside(-170, 0, -160, 10, 0), 1);
    }

    private static void promise17FarPlaces() {
        AmendedDrawing d = widest(1);
        CHECK.same("all", d.inside(MIN, MIN, MAX, MAX, 0), 0);
        CHECK.same("left at MAX", d.inside(MAX, MIN, MAX, MAX, 0), NONE);
        CHECK.same("top at MAX", d.inside(MIN, MAX, MAX, MAX, 0), NONE);
        CHECK.same("right at MIN", d.inside(MIN, MIN, MIN, MAX, 0), NONE);
        CHECK.same("lower at MIN", d.inside(MIN, MIN, MAX, MIN, 0), NONE);
        CHECK.same("from MAX to MIN", d.inside(MAX, MAX, MIN, MIN, 0), NONE);
    }

    private static void promise17NoPlacesAtAll() {
        AmendedDrawing d = one(0, 0, 0, 1, 1);
        CHECK.same("from a place to before it", d.inside(0, 0, 0, 0, 0), NONE);
        CHECK.same("one wide, none high", d.inside(0, 0, 1, 0, 0), NONE);
        CHECK.same("one high, none wide", d.inside(0, 0, 0, 1, 0), NONE);
        CHECK.same("one place", d.inside(0, 0, 1, 1, 0), 0);
        CHECK.same("ends the wrong way round", d.inside(1, 1, 0, 0, 0), NONE);
    }
}
