/** Short words for making drawings in tests. */
final class Sketch {
    static final int RECTANGLE = 0;
    static final int ELLIPSE = 1;
    static final int DIAMOND = 2;

    private Sketch() {
    }

    static int size(int width, int height) {
        return height * 128 + width;
    }

    static int make(AmendedDrawing d, int shape, int x, int y, int width, int height) {
        return d.commit(0, shape, x, y, size(width, height));
    }

    static int delete(AmendedDrawing d, int a) {
        return d.commit(1, a, 0, 0, 0);
    }

    static int move(AmendedDrawing d, int a, int x, int y) {
        return d.commit(2, a, x, y, 0);
    }

    static int scale(AmendedDrawing d, int a, int p, int q) {
        return d.commit(3, a, p, q, 0);
    }

    static int paint(AmendedDrawing d, int a, int colour) {
        return d.commit(4, a, colour, 0, 0);
    }

    static int raise(AmendedDrawing d, int a, int end) {
        return d.commit(5, a, end, 0, 0);
    }

    static int group(AmendedDrawing d, int a, int o) {
        return d.commit(6, a, o, 0, 0);
    }

    static int ungroup(AmendedDrawing d, int a) {
        return d.commit(7, a, 0, 0, 0);
    }

    static int twice(AmendedDrawing d, int a, int x, int y) {
        return d.commit(8, a, x, y, 0);
    }

    static int align(AmendedDrawing d, int a, int o, int side) {
        return d.commit(9, a, o, side, 0);
    }

    /** So many rectangles of 10 times 10 side by side, from (-190, 0) on, 20 apart. */
    static AmendedDrawing squares(int many) {
        AmendedDrawing d = new AmendedDrawing();
        for (int k = 0; k < many; k++) {
            make(d, RECTANGLE, -190 + 20 * k, 0, 10, 10);
        }
        return d;
    }

    /** A full row of 24 actions: one rectangle of 10 times 10 at (0, 0), made and painted 23 times. */
    static AmendedDrawing fullRow() {
        AmendedDrawing d = new AmendedDrawing();
        make(d, RECTANGLE, 0, 0, 10, 10);
        for (int n = 1; n < 24; n++) {
            paint(d, 0, n % 8);
        }
        return d;
    }

    /**
     * Five actions: 0 and 2 done, 1 withdrawn, 3 and 4 (a group of 0 and 1, painted) without effect for that;
     * six edits can be undone, and two, a commit and an amend, can be done again.
     */
    static AmendedDrawing busy() {
        AmendedDrawing d = squares(3);
        group(d, 0, 1);
        paint(d, 3, 2);
        d.withdraw(1);
        move(d, 2, 7, 8);
        d.amend(0, 2, 33);
        d.undo();
        d.undo();
        return d;
    }

    /** The names in the order of all, each group's members in brackets behind it: "0 3(1 2)". */
    static String order(AmendedDrawing d) {
        StringBuilder text = new StringBuilder();
        int open = 0;
        int[] groups = new int[d.objects() + 1];
        for (int k = 0; k < d.objects(); k++) {
            int parent = d.object(k, 7);
            while (open > 0 && groups[open - 1] != parent) {
                text.append(')');
                open--;
            }
            if (text.length() > 0 && text.charAt(text.length() - 1) != '(') {
                text.append(' ');
            }
            text.append(d.object(k, 0));
            if (d.object(k, 1) == 3) {
                text.append('(');
                groups[open++] = d.object(k, 0);
            }
        }
        return text.append(")".repeat(open)).toString();
    }

    /** Left, top, width and height of the object with a name. */
    static String box(AmendedDrawing d, int name) {
        int k = place(d, name);
        return d.object(k, 2) + " " + d.object(k, 3) + " " + d.object(k, 4) + " " + d.object(k, 5);
    }

    static int colour(AmendedDrawing d, int name) {
        return d.object(place(d, name), 6);
    }

    private static int place(AmendedDrawing d, int name) {
        for (int k = 0; k < d.objects(); k++) {
            if (d.object(k, 0) == name) {
                return k;
            }
        }
        throw new AssertionError("no object " + name);
    }
}
