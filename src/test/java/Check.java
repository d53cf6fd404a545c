/** Counts the answers that are not as due, and ends a test's main by them. */
final class Check {
    private int wrong;
    private int asked;

    void same(String what, long due, long got) {
        asked++;
        if (due != got) {
            wrong++;
            if (wrong <= 40) {
                System.out.println(what + " answered " + got + ", due is " + due);
            }
        }
    }

    void yes(String what, boolean got) {
        same(what, 1, got ? 1 : 0);
    }

    void no(String what, boolean got) {
        same(what, 0, got ? 1 : 0);
    }

    void refuses(String what, Class<? extends RuntimeException> due, Runnable call) {
        asked++;
        try {
            call.run();
        } catch (RuntimeException e) {
            if (e.getClass() == due) {
                return;
            }
            wrong++;
            System.out.println(what + " threw " + e.getClass().getName() + ", due is " + due.getName());
            return;
        }
        wrong++;
        System.out.println(what + " threw nothing, due is " + due.getName());
    }

    void illegal(String what, Runnable call) {
        refuses(what, IllegalArgumentException.class, call);
    }

    void full(String what, Runnable call) {
        refuses(what, IllegalStateException.class, call);
    }

    void end() {
        System.out.println(asked + " answers, " + wrong + " not as due");
        if (wrong != 0 || asked == 0) {
            System.exit(1);
        }
    }
}
