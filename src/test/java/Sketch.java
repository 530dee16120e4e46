/** Short words for making drawings in tests. */
final class Sketch {
    static final int RECTANGLE = 0;
    static final int ELLIPSE = 1;
    static final int DIAMOND = 2;

    private Sketch() {
    }

    static int size(int width, int height) {
        return height * 128 + width;
    }

    static int make(AmendedDrawing d, int shape, int x, int y, int width, int height) {
        return d.commit(0, shape, x, y, size(width, height));
    }

    static int delete(AmendedDrawing d, int a) {
        return d.commit(1, a, 0, 0, 0);
    }

    static int move(AmendedDrawing d, int a, int x, int y) {
        return d.commit(2, a, x, y, 0);
    }

    static int scale(AmendedDrawing d, int a, int p, int q) {
        return d.commit(3, a, p, q, 0);
    }

    static int paint(AmendedDrawing d, int a, int colour) {
        return d.commit(4, a, colour, 0, 0);
    }

    static int raise(AmendedDrawing d, int a, int end) {
        return d.commit(5, a, end, 0, 0);
    }

    static int group(AmendedDrawing d, int a, int o) {
        return d.commit(6, a, o, 0, 0);
    }

    static int ungroup(AmendedDrawing d, int a) {
        return d.commit(7, a, 0, 0, 0);
    }

    static int twice(AmendedDrawing d, int a, int x, int y) {
        return d.commit(8, a, x, y, 0);
    }

    static int align(AmendedDrawing d, int a, int o, int side) {
        return d.commit(9, a, o, side, 0);
    }

    /** So many rectangles of 10 times 10 side by side, from (-190, 0) on, 20 apart. */
    static AmendedDrawing squares(int many) {
        AmendedDrawing d = new AmendedDrawing();
        for (int k = 0; k < many; k++) {
            make(d, RECTANGLE, -190 + 20 * k, 0, 10, 10);
        }
        return d;
    }

    /** The names in the order of all, each group's members in brackets behind it: "0 3(1 2)". */
    static String order(AmendedDrawing d) {
        StringBuilder text = new StringBuilder();
        int open = 0;
        int[] groups = new int[d.objects() + 1];
        for (int k = 0; k < d.objects(); k++) {
            int parent = d.object(k, 7);
            while (open > 0 && groups[open - 1] != parent) {
                text.append(')');
                open--;
            }
            if (text.length() > 0 && text.charAt(text.length() - 1) != '(') {
                text.append(' ');
            }
            text.append(d.object(k, 0));
            if (d.object(k, 1) == 3) {
                text.append('(');
                groups[open++] = d.object(k, 0);
            }
        }
        return text.append(")".repeat(open)).toString();
    }

    /** Left, top, width and height of the object with a name. */
    static String box(AmendedDrawing d, int name) {
        int k = place(d, name);
        return d.object(k, 2) + " " + d.object(k, 3) + " " + d.object(k, 4) + " " + d.object(k, 5);
    }

    static int colour(AmendedDrawing d, int name) {
        return d.object(place(d, name), 6);
    }

    private static int place(AmendedDrawing d, int name) {
        for (int k = 0; k < d.objects(); k++) {
            if (d.object(k, 0) == name) {
                return k;
            }
        }
        throw new AssertionError("no object " + name);
    }
}
