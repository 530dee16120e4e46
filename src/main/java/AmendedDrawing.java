/** A drawing that is made anew from a row of actions whenever one of them is withdrawn, comes back or is amended. */
public final class AmendedDrawing {
    public static final int NONE = -1;

    private static final int MOST_ACTIONS = 24;
    private static final int MOST_ARGUMENTS = 4;
    private static final int MOST_OBJECTS = 12;
    private static final int MOST_EDITS = 32;
    private static final int LEAST_PLACE = -200;
    private static final int MOST_PLACE = 200;
    private static final int MOST_SQUARE = 8;

    private static final int MAKE = 0;
    private static final int DELETE = 1;
    private static final int MOVE = 2;
    private static final int SCALE = 3;
    private static final int PAINT = 4;
    private static final int RAISE = 5;
    private static final int GROUP = 6;
    private static final int UNGROUP = 7;
    private static final int DOUBLE = 8;
    private static final int ALIGN = 9;

    private static final int COMMITTED = 0;
    private static final int WITHDRAWN = 1;
    private static final int REINSTATED = 2;
    private static final int AMENDED = 3;

    private static final int EFFECT_WITHDRAWN = 0;
    private static final int EFFECT_DONE = 1;
    private static final int EFFECT_NONE = 2;

    private final Action[] row;
    private final Action offered;
    private final History history;
    private final Outcome now;
    private final Outcome trial;
    private int count;

    public AmendedDrawing() {
        row = new Action[MOST_ACTIONS];
        for (int n = 0; n < MOST_ACTIONS; n++) {
            row[n] = new Action();
        }
        offered = new Action();
        history = new History();
        now = new Outcome();
        trial = new Outcome();
        count = 0;
    }

    public int commit(int kind, int a, int b, int c, int d) throws IllegalArgumentException, IllegalStateException {
        // A commit that was undone may wait in the row to be done again, so nothing goes there before it is accepted.
        offered.become(kind, a, b, c, d);
        if (!offered.isValid()) {
            throw new IllegalArgumentException();
        }
        if (count >= MOST_ACTIONS || !now.drawing.carryOut(offered, count)) {
            throw new IllegalStateException();
        }
        int n = count;
        row[n].copy(offered);
        now.effects[n] = EFFECT_DONE;
        count = n + 1;
        history.add().become(COMMITTED, n, 0, 0, 0);
        return n;
    }

    public int withdraw(int n) throws IndexOutOfBoundsException, IllegalStateException {
        requireAction(n);
        if (row[n].withdrawn) {
            throw new IllegalStateException();
        }
        history.add().become(WITHDRAWN, n, 0, 0, 0);
        row[n].withdrawn = true;
        now.play(row, count, NONE);
        return changedBeside(n);
    }

    public int reinstate(int n) throws IndexOutOfBoundsException, IllegalStateException {
        requireAction(n);
        if (!row[n].withdrawn) {
            throw new IllegalStateException();
        }
        history.add().become(REINSTATED, n, 0, 0, 0);
        row[n].withdrawn = false;
        now.play(row, count, NONE);
        return changedBeside(n);
    }

    public int amend(int n, int i, int v) throws IndexOutOfBoundsException, IllegalArgumentException {
        requireAction(n);
        if (!row[n].takes(i, v)) {
            throw new IllegalArgumentException();
        }
        int before = row[n].arguments[i];
        history.add().become(AMENDED, n, i, before, v);
        row[n].arguments[i] = v;
        now.play(row, count, NONE);
        return before;
    }

    public int undo() throws java.util.NoSuchElementException {
        if (history.done == 0) {
            throw new java.util.NoSuchElementException();
        }
        Edit edit = history.stepBack();
        setEdit(edit, false);
        now.play(row, count, NONE);
        return edit.kind;
    }

    public int redo() throws java.util.NoSuchElementException {
        if (history.undone == 0) {
            throw new java.util.NoSuchElementException();
        }
        Edit edit = history.stepForward();
        setEdit(edit, true);
        now.play(row, count, NONE);
        return edit.kind;
    }

    public int actions() {
        return count;
    }

    public int argument(int n, int i) throws IndexOutOfBoundsException {
        requireAction(n);
        if (i < 0 || i > MOST_ARGUMENTS) {
            throw new IndexOutOfBoundsException();
        }
        return i == MOST_ARGUMENTS ? row[n].kind : row[n].arguments[i];
    }

    public int effect(int n) throws IndexOutOfBoundsException {
        requireAction(n);
        return now.effects[n];
    }

    public int needed(int n, int i) throws IndexOutOfBoundsException {
        requireAction(n);
        trial.play(row, count, n);
        int found = 0;
        for (int later = n + 1; later < count; later++) {
            if (trial.effects[later] != now.effects[later]) {
                if (found == i) {
                    return later;
                }
                found++;
            }
        }
        return NONE;
    }

    public int needs(int n, int i) throws IndexOutOfBoundsException {
        requireAction(n);
        int found = 0;
        for (int earlier = 0; earlier < n; earlier++) {
            trial.play(row, n + 1, earlier);
            if (trial.effects[n] != now.effects[n]) {
                if (found == i) {
                    return earlier;
                }
                found++;
            }
        }
        return NONE;
    }

    public int objects() {
        return now.drawing.size;
    }

    public int object(int k, int what) throws IndexOutOfBoundsException {
        if (k < 0 || k >= now.drawing.size || what < 0 || what > 7) {
            throw new IndexOutOfBoundsException();
        }
        return now.drawing.tell(now.drawing.order[k], what);
    }

    public int hit(int x, int y) {
        return now.drawing.topShapeAt(x, y);
    }

    public int shown(int x, int y, int n, int colour) throws IllegalArgumentException {
        if (n < 1 || n > MOST_SQUARE) {
            throw new IllegalArgumentException();
        }
        int places = 0;
        for (int down = 0; down < n; down++) {
            for (int right = 0; right < n; right++) {
                // A sum that wraps around is as far from every shape as the place that is meant.
                if (now.drawing.colourAt(x + right, y + down) == colour) {
                    places++;
                }
            }
        }
        return places;
    }

    public int inside(int x0, int y0, int x1, int y1, int k) {
        int found = 0;
        for (int at = 0; at < now.drawing.size; at++) {
            int name = now.drawing.order[at];
            if (now.drawing.items[name].liesIn(x0, y0, x1, y1)) {
                if (found == k) {
                    return name;
                }
                found++;
            }
        }
        return NONE;
    }

    private void requireAction(int n) {
        if (n < 0 || n >= count) {
            throw new IndexOutOfBoundsException();
        }
    }

    /** Lets the row be as it is behind the edit, or as it was before it; the action of a commit stays in its place. */
    private void setEdit(Edit edit, boolean done) {
        Action action = row[edit.action];
        switch (edit.kind) {
            case COMMITTED:
                count = done ? edit.action + 1 : edit.action;
                break;
            case WITHDRAWN:
                action.withdrawn = done;
                break;
            case REINSTATED:
                action.withdrawn = !done;
                break;
            default:
                action.arguments[edit.argument] = done ? edit.after : edit.before;
                break;
        }
    }

    /** How many actions beside this one had another effect before the row was played last. */
    private int changedBeside(int n) {
        int changed = 0;
        for (int other = 0; other < count; other++) {
            if (other != n && now.effects[other] != now.before[other]) {
                changed++;
            }
        }
        return changed;
    }

    /** One action of the row; the arguments that its kind does not have are 0. */
    private static final class Action {
        private static final int NO_ARGUMENT = 0;
        private static final int NAME = 1;
        private static final int FORM = 2;
        private static final int PLACE = 3;
        private static final int SIZE = 4;
        private static final int FACTOR = 5;
        private static final int COLOUR = 6;
        private static final int END = 7;
        private static final int SIDE = 8;

        private static final int[] SORTS = {
            FORM, PLACE, PLACE, SIZE,
            NAME, NO_ARGUMENT, NO_ARGUMENT, NO_ARGUMENT,
            NAME, PLACE, PLACE, NO_ARGUMENT,
            NAME, FACTOR, FACTOR, NO_ARGUMENT,
            NAME, COLOUR, NO_ARGUMENT, NO_ARGUMENT,
            NAME, END, NO_ARGUMENT, NO_ARGUMENT,
            NAME, NAME, NO_ARGUMENT, NO_ARGUMENT,
            NAME, NO_ARGUMENT, NO_ARGUMENT, NO_ARGUMENT,
            NAME, PLACE, PLACE, NO_ARGUMENT,
            NAME, NAME, SIDE, NO_ARGUMENT
        };

        int kind;
        boolean withdrawn;
        final int[] arguments;

        Action() {
            kind = MAKE;
            withdrawn = false;
            arguments = new int[MOST_ARGUMENTS];
        }

        void become(int newKind, int a, int b, int c, int d) {
            kind = newKind;
            withdrawn = false;
            arguments[0] = sort(0) == NO_ARGUMENT ? 0 : a;
            arguments[1] = sort(1) == NO_ARGUMENT ? 0 : b;
            arguments[2] = sort(2) == NO_ARGUMENT ? 0 : c;
            arguments[3] = sort(3) == NO_ARGUMENT ? 0 : d;
        }

        void copy(Action other) {
            kind = other.kind;
            withdrawn = other.withdrawn;
            System.arraycopy(other.arguments, 0, arguments, 0, MOST_ARGUMENTS);
        }

        boolean isValid() {
            if (kind < MAKE || kind > ALIGN) {
                return false;
            }
            for (int i = 0; i < MOST_ARGUMENTS; i++) {
                if (sort(i) != NO_ARGUMENT && !takes(i, arguments[i])) {
                    return false;
                }
            }
            return true;
        }

        boolean takes(int i, int v) {
            switch (sort(i)) {
                case NAME: return isWithin(v, 0, MOST_ACTIONS - 1);
                case FORM: return isWithin(v, Item.RECTANGLE, Item.DIAMOND);
                case PLACE: return isWithin(v, LEAST_PLACE, MOST_PLACE);
                case SIZE: return isWithin(widthOf(v), 1, 100) && isWithin(heightOf(v), 1, 100);
                case FACTOR: return isWithin(v, 1, 9);
                case COLOUR: return isWithin(v, 0, 7);
                case END: return isWithin(v, 0, 1);
                case SIDE: return isWithin(v, 0, 3);
                default: return false;
            }
        }

        private int sort(int i) {
            if (kind < MAKE || kind > ALIGN || i < 0 || i >= MOST_ARGUMENTS) {
                return NO_ARGUMENT;
            }
            return SORTS[kind * MOST_ARGUMENTS + i];
        }

        static int widthOf(int size) {
            return size % 128;
        }

        static int heightOf(int size) {
            return size / 128;
        }

        private static boolean isWithin(int v, int least, int most) {
            return least <= v && v <= most;
        }
    }

    /** One edit, with what is needed to undo it and to do it again. */
    private static final class Edit {
        int kind;
        int action;
        int argument;
        int before;
        int after;

        void become(int newKind, int newAction, int newArgument, int newBefore, int newAfter) {
            kind = newKind;
            action = newAction;
            argument = newArgument;
            before = newBefore;
            after = newAfter;
        }
    }

    /** The latest edits in a ring: those that stand, and behind them those that were undone. */
    private static final class History {
        private final Edit[] ring;
        private int first;
        int done;
        int undone;

        History() {
            ring = new Edit[MOST_EDITS];
            for (int k = 0; k < MOST_EDITS; k++) {
                ring[k] = new Edit();
            }
            first = 0;
            done = 0;
            undone = 0;
        }

        Edit add() {
            undone = 0;
            if (done == MOST_EDITS) {
                first = (first + 1) % MOST_EDITS;
            } else {
                done++;
            }
            return at(done - 1);
        }

        Edit stepBack() {
            done--;
            undone++;
            return at(done);
        }

        Edit stepForward() {
            done++;
            undone--;
            return at(done - 1);
        }

        private Edit at(int k) {
            return ring[(first + k) % MOST_EDITS];
        }
    }

    /** What a row of actions makes: the drawing and the effect of each action, and the effects that they had before. */
    private static final class Outcome {
        final Drawing drawing;
        final int[] effects;
        final int[] before;

        Outcome() {
            drawing = new Drawing();
            effects = new int[MOST_ACTIONS];
            before = new int[MOST_ACTIONS];
        }

        /** Plays the row's first actions as if the one that is called switched was withdrawn, or had come back. */
        void play(Action[] row, int count, int switched) {
            System.arraycopy(effects, 0, before, 0, MOST_ACTIONS);
            drawing.clear();
            for (int n = 0; n < count; n++) {
                boolean withdrawn = row[n].withdrawn != (n == switched);
                if (withdrawn) {
                    effects[n] = EFFECT_WITHDRAWN;
                } else {
                    effects[n] = drawing.carryOut(row[n], n) ? EFFECT_DONE : EFFECT_NONE;
                }
            }
        }
    }

    /** A shape or a group; a group has no box of its own, as that follows from the shapes in it. */
    private static final class Item {
        static final int RECTANGLE = 0;
        static final int ELLIPSE = 1;
        static final int DIAMOND = 2;
        static final int COMPOUND = 3;

        static final int LEFT = 0;
        static final int TOP = 1;
        static final int RIGHT = 2;
        static final int LOWER = 3;

        boolean there;
        int form;
        int left;
        int top;
        int width;
        int height;
        int colour;
        int parent;

        boolean isShape() {
            return form != COMPOUND;
        }

        void becomeShape(int newForm, int newColour, int newParent) {
            there = true;
            form = newForm;
            colour = newColour;
            parent = newParent;
        }

        void becomeGroup() {
            there = true;
            form = COMPOUND;
            colour = NONE;
            parent = NONE;
        }

        void setBox(int newLeft, int newTop, int newWidth, int newHeight) {
            left = newLeft;
            top = newTop;
            width = newWidth;
            height = newHeight;
        }

        int end(int side) {
            switch (side) {
                case LEFT: return left;
                case TOP: return top;
                case RIGHT: return left + width;
                default: return top + height;
            }
        }

        boolean canShift(int x, int y) {
            return keepsLimits(left + x, top + y, width, height);
        }

        void shift(int x, int y) {
            left += x;
            top += y;
        }

        boolean canStretch(int fromLeft, int fromTop, int p, int q) {
            return keepsLimits(scaledPlace(left, fromLeft, p, q), scaledPlace(top, fromTop, p, q),
                    scaledLength(width, p, q), scaledLength(height, p, q));
        }

        void stretch(int fromLeft, int fromTop, int p, int q) {
            setBox(scaledPlace(left, fromLeft, p, q), scaledPlace(top, fromTop, p, q),
                    scaledLength(width, p, q), scaledLength(height, p, q));
        }

        boolean liesIn(int x0, int y0, int x1, int y1) {
            return isShape() && x0 <= left && y0 <= top && left + width <= x1 && top + height <= y1;
        }

        boolean covers(int x, int y) {
            // Far places are refused here, so that nothing below can wrap around.
            if (!isShape() || x < left || x >= left + width || y < top || y >= top + height) {
                return false;
            }
            int u = 2 * (x - left) + 1 - width;
            int v = 2 * (y - top) + 1 - height;
            switch (form) {
                case ELLIPSE: return ellipseReaches(u, v);
                case DIAMOND: return Math.abs(u) * height + Math.abs(v) * width <= width * height;
                default: return true;
            }
        }

        /** In long: a width and a height of 400 give more than an int holds. */
        private boolean ellipseReaches(long u, long v) {
            long wide = (long) width * width;
            long high = (long) height * height;
            return u * u * high + v * v * wide <= wide * high;
        }

        static boolean keepsLimits(int left, int top, int width, int height) {
            return left >= LEAST_PLACE && top >= LEAST_PLACE
                    && left + width <= MOST_PLACE && top + height <= MOST_PLACE;
        }

        /** A place is never before that of the box around it, so the division rounds down; q is 1 at least. */
        private static int scaledPlace(int place, int from, int p, int q) {
            return from + (place - from) * p / q;
        }

        private static int scaledLength(int length, int p, int q) {
            int scaled = length * p / q;
            return scaled < 1 ? 1 : scaled;
        }
    }

    /**
     * The objects, each at its name, and the order of all as one row of names. All that is in a group stands in
     * that row as one block right behind the group, so that the order among the members needs no row of its own.
     */
    private static final class Drawing {
        final Item[] items;
        final int[] order;
        int size;
        private final int[] block;

        Drawing() {
            items = new Item[MOST_ACTIONS];
            for (int name = 0; name < MOST_ACTIONS; name++) {
                items[name] = new Item();
            }
            order = new int[MOST_OBJECTS];
            block = new int[MOST_OBJECTS];
            size = 0;
        }

        void clear() {
            removeBlock(0, size);
        }

        /** Whether the action is done; if it is not, nothing is changed. */
        boolean carryOut(Action action, int number) {
            int a = action.arguments[0];
            int b = action.arguments[1];
            int c = action.arguments[2];
            if (action.kind == MAKE) {
                return make(action, number);
            }
            if (!items[a].there) {
                return false;
            }
            switch (action.kind) {
                case DELETE: return delete(a);
                case MOVE: return move(a, b, c);
                case SCALE: return scale(a, b, c);
                case PAINT: return paint(a, b);
                case RAISE: return raise(a, b);
                case GROUP: return group(a, b, number);
                case UNGROUP: return ungroup(a);
                case DOUBLE: return makeDouble(a, b, c, number);
                case ALIGN: return align(a, b, c);
                default: return false;
            }
        }

        int tell(int name, int what) {
            Item item = items[name];
            switch (what) {
                case 0: return name;
                case 1: return item.form;
                case 2: return edge(name, Item.LEFT);
                case 3: return edge(name, Item.TOP);
                case 4: return edge(name, Item.RIGHT) - edge(name, Item.LEFT);
                case 5: return edge(name, Item.LOWER) - edge(name, Item.TOP);
                case 6: return item.colour;
                default: return item.parent;
            }
        }

        int topShapeAt(int x, int y) {
            for (int at = size - 1; at >= 0; at--) {
                if (items[order[at]].covers(x, y)) {
                    return order[at];
                }
            }
            return NONE;
        }

        int colourAt(int x, int y) {
            int name = topShapeAt(x, y);
            return name == NONE ? NONE : items[name].colour;
        }

        private boolean make(Action action, int number) {
            int left = action.arguments[1];
            int top = action.arguments[2];
            int width = Action.widthOf(action.arguments[3]);
            int height = Action.heightOf(action.arguments[3]);
            if (size >= MOST_OBJECTS || !Item.keepsLimits(left, top, width, height)) {
                return false;
            }
            items[number].becomeShape(action.arguments[0], 0, NONE);
            items[number].setBox(left, top, width, height);
            insert(number, size);
            return true;
        }

        private boolean delete(int a) {
            int parent = items[a].parent;
            removeBlock(placeOf(a), endOf(a));
            for (int up = 0; up < MOST_OBJECTS && parent != NONE; up++) {
                int empty = parent;
                if (endOf(empty) - placeOf(empty) > 1) {
                    return true;
                }
                parent = items[empty].parent;
                removeBlock(placeOf(empty), endOf(empty));
            }
            return true;
        }

        private boolean move(int a, int x, int y) {
            for (int at = 0; at < size; at++) {
                if (isShapeIn(order[at], a) && !items[order[at]].canShift(x, y)) {
                    return false;
                }
            }
            for (int at = 0; at < size; at++) {
                if (isShapeIn(order[at], a)) {
                    items[order[at]].shift(x, y);
                }
            }
            return true;
        }

        private boolean scale(int a, int p, int q) {
            int left = edge(a, Item.LEFT);
            int top = edge(a, Item.TOP);
            for (int at = 0; at < size; at++) {
                if (isShapeIn(order[at], a) && !items[order[at]].canStretch(left, top, p, q)) {
                    return false;
                }
            }
            for (int at = 0; at < size; at++) {
                if (isShapeIn(order[at], a)) {
                    items[order[at]].stretch(left, top, p, q);
                }
            }
            return true;
        }

        private boolean paint(int a, int colour) {
            for (int at = 0; at < size; at++) {
                if (isShapeIn(order[at], a)) {
                    items[order[at]].colour = colour;
                }
            }
            return true;
        }

        private boolean raise(int a, int toLast) {
            int parent = items[a].parent;
            int first = parent == NONE ? 0 : placeOf(parent) + 1;
            int end = parent == NONE ? size : endOf(parent);
            moveBlock(placeOf(a), endOf(a), toLast == 1 ? end : first);
            return true;
        }

        private boolean group(int a, int o, int number) {
            if (a == o || !items[o].there || items[a].parent != NONE || items[o].parent != NONE) {
                return false;
            }
            if (size >= MOST_OBJECTS) {
                return false;
            }
            int earlier = placeOf(a) < placeOf(o) ? a : o;
            int later = earlier == a ? o : a;
            moveBlock(placeOf(earlier), endOf(earlier), placeOf(later));
            insert(number, placeOf(earlier));
            items[number].becomeGroup();
            items[a].parent = number;
            items[o].parent = number;
            return true;
        }

        private boolean ungroup(int a) {
            if (items[a].isShape()) {
                return false;
            }
            int place = placeOf(a);
            int end = endOf(a);
            for (int at = place + 1; at < end; at++) {
                Item item = items[order[at]];
                if (item.parent == a) {
                    item.parent = items[a].parent;
                }
            }
            removeBlock(place, place + 1);
            return true;
        }

        private boolean makeDouble(int a, int x, int y, int number) {
            Item model = items[a];
            if (!model.isShape() || size >= MOST_OBJECTS || !model.canShift(x, y)) {
                return false;
            }
            items[number].becomeShape(model.form, model.colour, model.parent);
            items[number].setBox(model.left + x, model.top + y, model.width, model.height);
            insert(number, placeOf(a) + 1);
            return true;
        }

        private boolean align(int a, int o, int side) {
            if (!items[o].there || isIn(a, o) || isIn(o, a)) {
                return false;
            }
            int way = edge(o, side) - edge(a, side);
            boolean sideways = side == Item.LEFT || side == Item.RIGHT;
            return move(a, sideways ? way : 0, sideways ? 0 : way);
        }

        private int edge(int name, int side) {
            boolean least = side == Item.LEFT || side == Item.TOP;
            int farthest = least ? Integer.MAX_VALUE : Integer.MIN_VALUE;
            for (int at = 0; at < size; at++) {
                if (isShapeIn(order[at], name)) {
                    int end = items[order[at]].end(side);
                    farthest = least ? Math.min(farthest, end) : Math.max(farthest, end);
                }
            }
            return farthest;
        }

        private boolean isShapeIn(int name, int outer) {
            return items[name].isShape() && isIn(name, outer);
        }

        /** Whether it is the other one itself, its member, or in one of its members. */
        private boolean isIn(int name, int outer) {
            int around = name;
            for (int up = 0; up < MOST_OBJECTS && around != NONE; up++) {
                if (around == outer) {
                    return true;
                }
                around = items[around].parent;
            }
            return false;
        }

        private int placeOf(int name) {
            for (int at = 0; at < size; at++) {
                if (order[at] == name) {
                    return at;
                }
            }
            return size;
        }

        private int endOf(int name) {
            int end = placeOf(name) + 1;
            while (end < size && isIn(order[end], name)) {
                end++;
            }
            return end;
        }

        private void insert(int name, int place) {
            System.arraycopy(order, place, order, place + 1, size - place);
            order[place] = name;
            size++;
        }

        private void removeBlock(int start, int end) {
            for (int at = start; at < end; at++) {
                items[order[at]].there = false;
            }
            System.arraycopy(order, end, order, start, size - end);
            size -= end - start;
        }

        /** The block from start to before end comes to stand before what is now at place, which is not within it. */
        private void moveBlock(int start, int end, int place) {
            int length = end - start;
            System.arraycopy(order, start, block, 0, length);
            if (place <= start) {
                System.arraycopy(order, place, order, place + length, start - place);
                System.arraycopy(block, 0, order, place, length);
            } else {
                System.arraycopy(order, end, order, start, place - end);
                System.arraycopy(block, 0, order, place - length, length);
            }
        }
    }
}
