import java.util.ArrayDeque;
import java.util.ArrayList;
import java.util.Deque;
import java.util.List;
import java.util.NoSuchElementException;

/**
 * The document once more, with trees instead of a row, copies instead of checks beforehand, and whole states
 * instead of edits for undo, so that a mistake is unlikely to stand in both programs.
 */
final class PlainModel {
    private static final int NONE = -1;
    private static final int[] ARGUMENTS = {4, 1, 3, 3, 2, 2, 2, 1, 3, 3};

    private record Act(int kind, List<Integer> args, boolean withdrawn) {
        int arg(int i) {
            return i < args.size() ? args.get(i) : 0;
        }

        Act switched() {
            return new Act(kind, args, !withdrawn);
        }
    }

    private record Step(int kind, List<Act> before, List<Act> after) {
    }

    private static final class Node {
        int name;
        int form;
        int left;
        int top;
        int width;
        int height;
        int colour;
        Node parent;
        final List<Node> members = new ArrayList<>();

        List<Node> all() {
            List<Node> all = new ArrayList<>();
            if (parent != null || name != NONE) {
                all.add(this);
            }
            for (Node member : members) {
                all.addAll(member.all());
            }
            return all;
        }

        List<Node> shapes() {
            List<Node> shapes = all();
            shapes.removeIf(node -> node.form == 3);
            return shapes;
        }

        Node copy(Node newParent) {
            Node twin = new Node();
            twin.name = name;
            twin.form = form;
            twin.left = left;
            twin.top = top;
            twin.width = width;
            twin.height = height;
            twin.colour = colour;
            twin.parent = newParent;
            for (Node member : members) {
                twin.members.add(member.copy(twin));
            }
            return twin;
        }

        int least(boolean sideways) {
            return shapes().stream().mapToInt(s -> sideways ? s.left : s.top).min().getAsInt();
        }

        int most(boolean sideways) {
            return shapes().stream().mapToInt(s -> sideways ? s.left + s.width : s.top + s.height).max().getAsInt();
        }

        boolean covers(int x, int y) {
            if (form == 3 || x < left || (long) x >= left + width || y < top || (long) y >= top + height) {
                return false;
            }
            long w = width;
            long h = height;
            long u = 2L * (x - left) + 1 - w;
            long v = 2L * (y - top) + 1 - h;
            return switch (form) {
                case 1 -> u * u * h * h + v * v * w * w <= w * w * h * h;
                case 2 -> Math.abs(u) * h + Math.abs(v) * w <= w * h;
                default -> true;
            };
        }
    }

    private List<Act> row = new ArrayList<>();
    private final Deque<Step> past = new ArrayDeque<>();
    private final Deque<Step> future = new ArrayDeque<>();
    private Node root = emptyRoot();
    private List<Integer> effects = new ArrayList<>();

    private static Node emptyRoot() {
        Node root = new Node();
        root.name = NONE;
        root.form = 3;
        return root;
    }

    private static boolean validArgument(int kind, int i, int v) {
        if (kind < 0 || kind > 9 || i < 0 || i >= ARGUMENTS[kind]) {
            return false;
        }
        if (kind == 0) {
            return switch (i) {
                case 0 -> v >= 0 && v <= 2;
                case 3 -> v > 0 && v % 128 >= 1 && v % 128 <= 100 && v / 128 >= 1 && v / 128 <= 100;
                default -> v >= -200 && v <= 200;
            };
        }
        if (i == 0 || i == 1 && (kind == 6 || kind == 9)) {
            return v >= 0 && v <= 23;
        }
        return switch (kind) {
            case 2, 8 -> v >= -200 && v <= 200;
            case 3 -> v >= 1 && v <= 9;
            case 4 -> v >= 0 && v <= 7;
            case 5 -> v == 0 || v == 1;
            default -> v >= 0 && v <= 3;
        };
    }

    private static Node named(Node root, int name) {
        for (Node node : root.all()) {
            if (node.name == name) {
                return node;
            }
        }
        return null;
    }

    /** The drawing behind the action, or null when it is without effect. */
    private static Node applied(Node before, Act act, int number) {
        Node root = before.copy(null);
        boolean asSaid = act.kind == 0 ? make(root, act, number) : change(root, act, number);
        if (!asSaid || root.all().size() > 12) {
            return null;
        }
        for (Node s : root.shapes()) {
            if (s.left < -200 || s.top < -200 || s.left + s.width > 200 || s.top + s.height > 200) {
                return null;
            }
        }
        return root;
    }

    private static boolean make(Node root, Act act, int number) {
        Node shape = new Node();
        shape.name = number;
        shape.form = act.arg(0);
        shape.left = act.arg(1);
        shape.top = act.arg(2);
        shape.width = act.arg(3) % 128;
        shape.height = act.arg(3) / 128;
        shape.parent = root;
        root.members.add(shape);
        return true;
    }

    private static boolean change(Node root, Act act, int number) {
        Node a = named(root, act.arg(0));
        if (a == null) {
            return false;
        }
        switch (act.kind) {
            case 1 -> delete(a);
            case 2 -> shift(a, act.arg(1), act.arg(2));
            case 3 -> scale(a, act.arg(1), act.arg(2));
            case 4 -> a.shapes().forEach(s -> s.colour = act.arg(1));
            case 5 -> {
                Node parent = a.parent;
                parent.members.remove(a);
                parent.members.add(act.arg(1) == 0 ? 0 : parent.members.size(), a);
            }
            case 6 -> {
                return group(root, a, named(root, act.arg(1)), number);
            }
            case 7 -> {
                return ungroup(a);
            }
            case 8 -> {
                return twice(a, act.arg(1), act.arg(2), number);
            }
            default -> {
                return align(a, named(root, act.arg(1)), act.arg(2));
            }
        }
        return true;
    }

    private static void delete(Node a) {
        Node parent = a.parent;
        parent.members.remove(a);
        if (parent.members.isEmpty() && parent.parent != null) {
            delete(parent);
        }
    }

    private static void shift(Node a, int x, int y) {
        for (Node s : a.shapes()) {
            s.left += x;
            s.top += y;
        }
    }

    private static void scale(Node a, int p, int q) {
        int fromLeft = a.least(true);
        int fromTop = a.least(false);
        for (Node s : a.shapes()) {
            s.left = fromLeft + (s.left - fromLeft) * p / q;
            s.top = fromTop + (s.top - fromTop) * p / q;
            s.width = Math.max(1, s.width * p / q);
            s.height = Math.max(1, s.height * p / q);
        }
    }

    private static boolean group(Node root, Node a, Node o, int number) {
        if (o == null || a == o || a.parent != root || o.parent != root) {
            return false;
        }
        Node made = new Node();
        made.name = number;
        made.form = 3;
        made.parent = root;
        List<Node> alone = new ArrayList<>();
        for (Node node : root.members) {
            if (node != a && node != o) {
                alone.add(node);
                continue;
            }
            node.parent = made;
            made.members.add(node);
            if (made.members.size() == 2) {
                alone.add(made);
            }
        }
        root.members.clear();
        root.members.addAll(alone);
        return true;
    }

    private static boolean ungroup(Node a) {
        if (a.form != 3) {
            return false;
        }
        int at = a.parent.members.indexOf(a);
        a.parent.members.remove(at);
        a.parent.members.addAll(at, a.members);
        a.members.forEach(member -> member.parent = a.parent);
        return true;
    }

    private static boolean twice(Node a, int x, int y, int number) {
        if (a.form == 3) {
            return false;
        }
        Node twin = a.copy(a.parent);
        twin.name = number;
        shift(twin, x, y);
        a.parent.members.add(a.parent.members.indexOf(a) + 1, twin);
        return true;
    }

    private static boolean align(Node a, Node o, int side) {
        if (o == null || a.all().contains(o) || o.all().contains(a)) {
            return false;
        }
        switch (side) {
            case 0 -> shift(a, o.least(true) - a.least(true), 0);
            case 1 -> shift(a, 0, o.least(false) - a.least(false));
            case 2 -> shift(a, o.most(true) - a.most(true), 0);
            default -> shift(a, 0, o.most(false) - a.most(false));
        }
        return true;
    }

    private Node play(List<Act> acts, List<Integer> into) {
        Node drawing = emptyRoot();
        into.clear();
        for (int n = 0; n < acts.size(); n++) {
            if (acts.get(n).withdrawn) {
                into.add(0);
                continue;
            }
            Node next = applied(drawing, acts.get(n), n);
            into.add(next == null ? 2 : 1);
            drawing = next == null ? drawing : next;
        }
        return drawing;
    }

    private void show(List<Act> acts) {
        row = acts;
        effects = new ArrayList<>();
        root = play(row, effects);
    }

    private void edit(int kind, List<Act> acts) {
        past.addLast(new Step(kind, row, acts));
        if (past.size() > 32) {
            past.removeFirst();
        }
        future.clear();
        show(acts);
    }

    private void check(int n) {
        if (n < 0 || n >= row.size()) {
            throw new IndexOutOfBoundsException();
        }
    }

    private List<Act> with(int n, Act act) {
        List<Act> acts = new ArrayList<>(row);
        acts.set(n, act);
        return acts;
    }

    int commit(int kind, int... args) {
        List<Integer> taken = new ArrayList<>();
        if (kind < 0 || kind > 9) {
            throw new IllegalArgumentException();
        }
        for (int i = 0; i < ARGUMENTS[kind]; i++) {
            if (!validArgument(kind, i, args[i])) {
                throw new IllegalArgumentException();
            }
            taken.add(args[i]);
        }
        Act act = new Act(kind, taken, false);
        if (row.size() == 24 || applied(root, act, row.size()) == null) {
            throw new IllegalStateException();
        }
        List<Act> acts = new ArrayList<>(row);
        acts.add(act);
        edit(0, acts);
        return row.size() - 1;
    }

    private int turn(int n, boolean withdrawn) {
        check(n);
        if (row.get(n).withdrawn == withdrawn) {
            throw new IllegalStateException();
        }
        List<Integer> before = effects;
        edit(withdrawn ? 1 : 2, with(n, row.get(n).switched()));
        int others = 0;
        for (int k = 0; k < row.size(); k++) {
            others += k != n && !before.get(k).equals(effects.get(k)) ? 1 : 0;
        }
        return others;
    }

    int withdraw(int n) {
        return turn(n, true);
    }

    int reinstate(int n) {
        return turn(n, false);
    }

    int amend(int n, int i, int v) {
        check(n);
        Act old = row.get(n);
        if (!validArgument(old.kind, i, v)) {
            throw new IllegalArgumentException();
        }
        List<Integer> args = new ArrayList<>(old.args);
        args.set(i, v);
        edit(3, with(n, new Act(old.kind, args, old.withdrawn)));
        return old.arg(i);
    }

    int undo() {
        if (past.isEmpty()) {
            throw new NoSuchElementException();
        }
        Step step = past.removeLast();
        future.addLast(step);
        show(step.before);
        return step.kind;
    }

    int redo() {
        if (future.isEmpty()) {
            throw new NoSuchElementException();
        }
        Step step = future.removeLast();
        past.addLast(step);
        show(step.after);
        return step.kind;
    }

    int actions() {
        return row.size();
    }

    int argument(int n, int i) {
        check(n);
        if (i < 0 || i > 4) {
            throw new IndexOutOfBoundsException();
        }
        return i == 4 ? row.get(n).kind : row.get(n).arg(i);
    }

    int effect(int n) {
        check(n);
        return effects.get(n);
    }

    private boolean matters(int switched, int n) {
        List<Integer> then = new ArrayList<>();
        play(with(switched, row.get(switched).switched()), then);
        return !then.get(n).equals(effects.get(n));
    }

    private static int ith(List<Integer> found, int i) {
        return i < 0 || i >= found.size() ? NONE : found.get(i);
    }

    int needed(int n, int i) {
        check(n);
        List<Integer> found = new ArrayList<>();
        for (int later = n + 1; later < row.size(); later++) {
            if (matters(n, later)) {
                found.add(later);
            }
        }
        return ith(found, i);
    }

    int needs(int n, int i) {
        check(n);
        List<Integer> found = new ArrayList<>();
        for (int earlier = 0; earlier < n; earlier++) {
            if (matters(earlier, n)) {
                found.add(earlier);
            }
        }
        return ith(found, i);
    }

    int objects() {
        return root.all().size();
    }

    int object(int k, int what) {
        List<Node> all = root.all();
        if (k < 0 || k >= all.size() || what < 0 || what > 7) {
            throw new IndexOutOfBoundsException();
        }
        Node node = all.get(k);
        return switch (what) {
            case 0 -> node.name;
            case 1 -> node.form;
            case 2 -> node.least(true);
            case 3 -> node.least(false);
            case 4 -> node.most(true) - node.least(true);
            case 5 -> node.most(false) - node.least(false);
            case 6 -> node.form == 3 ? NONE : node.colour;
            default -> node.parent.name;
        };
    }

    private Node shapeAt(int x, int y) {
        Node latest = null;
        for (Node s : root.shapes()) {
            latest = s.covers(x, y) ? s : latest;
        }
        return latest;
    }

    int hit(int x, int y) {
        Node s = shapeAt(x, y);
        return s == null ? NONE : s.name;
    }

    int shown(int x, int y, int n, int colour) {
        if (n < 1 || n > 8) {
            throw new IllegalArgumentException();
        }
        int places = 0;
        for (int k = 0; k < n * n; k++) {
            long px = (long) x + k % n;
            long py = (long) y + k / n;
            Node s = px > 1000 || py > 1000 ? null : shapeAt((int) px, (int) py);
            places += (s == null ? NONE : s.colour) == colour ? 1 : 0;
        }
        return places;
    }

    int inside(int x0, int y0, int x1, int y1, int k) {
        List<Integer> found = new ArrayList<>();
        for (Node s : root.shapes()) {
            if (s.left >= x0 && s.top >= y0 && s.left + s.width <= x1 && s.top + s.height <= y1) {
                found.add(s.name);
            }
        }
        return ith(found, k);
    }
}
