import java.util.List;
import java.util.NoSuchElementException;
import java.util.function.Consumer;
import java.util.function.Function;
import java.util.function.IntSupplier;
import java.util.function.Supplier;

/** Looks at all that can be asked of an object, to see whether a call changed something. */
final class Watch {
    // Each look is taken at an object of its own: two at one full object would go beyond its 512 calls.
    private static final List<Function<AmendedDrawing, String>> LOOKS =
            List.of(Watch::state, Watch::stateWhenAllIsRedone, Watch::stateWhenAllIsUndone);

    private Watch() {
    }

    /** "A call that throws changes nothing": neither what can be asked nor what can be undone or done again. */
    static void refused(Check check, String what, Class<? extends RuntimeException> due,
            Supplier<AmendedDrawing> drawing, Consumer<AmendedDrawing> call) {
        for (Function<AmendedDrawing, String> look : LOOKS) {
            AmendedDrawing called = drawing.get();
            check.fails(what, due, () -> call.accept(called));
            check.text("what is there behind " + what, look.apply(called), look.apply(drawing.get()));
        }
    }

    static String state(AmendedDrawing d) {
        StringBuilder text = new StringBuilder();
        int actions = d.actions();
        for (int n = 0; n < actions; n++) {
            for (int i = 0; i <= 4; i++) {
                text.append(d.argument(n, i)).append(' ');
            }
            text.append("effect ").append(d.effect(n)).append("; ");
        }
        int objects = d.objects();
        for (int k = 0; k < objects; k++) {
            for (int what = 0; what <= 7; what++) {
                text.append(d.object(k, what)).append(' ');
            }
            text.append("; ");
        }
        return text.toString();
    }

    /** The kinds of all edits that can be undone, from the latest on; they are undone then. */
    static String undone(AmendedDrawing d) {
        return answers(d::undo);
    }

    /** The kinds of all edits that can be done again, in their turn; they are done again then. */
    static String redone(AmendedDrawing d) {
        return answers(d::redo);
    }

    private static String stateWhenAllIsUndone(AmendedDrawing d) {
        return undone(d) + "; " + state(d);
    }

    private static String stateWhenAllIsRedone(AmendedDrawing d) {
        return redone(d) + "; " + state(d);
    }

    private static String answers(IntSupplier step) {
        StringBuilder text = new StringBuilder();
        // No object has more calls than 512, so more steps than that would never end.
        for (int k = 0; k < 512; k++) {
            try {
                text.append(step.getAsInt());
            } catch (NoSuchElementException none) {
                return text.toString();
            }
        }
        return text + " without an end";
    }
}
