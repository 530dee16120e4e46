/** Counts what is as due, prints what is not, and ends a test. */
final class Check {
    private int asDue;
    private int wrong;

    void same(String what, long got, long want) {
        if (got == want) {
            asDue++;
        } else {
            wrong++;
            System.out.println(what + " answered " + got + ", due is " + want);
        }
    }

    void holds(String what, boolean held) {
        same(what, held ? 1 : 0, 1);
    }

    void text(String what, String got, String want) {
        holds(what + " is " + got + ", due is " + want, got.equals(want));
    }

    /** The very class counts: a subclass such as ArrayIndexOutOfBoundsException is an accident, not an answer. */
    void fails(String what, Class<? extends RuntimeException> want, Runnable call) {
        try {
            call.run();
        } catch (RuntimeException e) {
            holds(what + " threw " + e.getClass().getName() + ", due is " + want.getName(), e.getClass() == want);
            return;
        }
        holds(what + " threw nothing, due is " + want.getName(), false);
    }

    void end(String name) {
        System.out.println(name + ": " + asDue + " answers as due, " + wrong + " not");
        if (wrong != 0 || asDue == 0) {
            System.exit(1);
        }
    }
}
