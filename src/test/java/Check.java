/** Counts the answers that are not as due, tells each with the document's sentence, and ends a test's main by them. */
final class Check {
    private static final int MOST_TOLD = 40;

    private String sentence = "";
    private int wrong;
    private int asked;

    /** The sentence of the document that the answers from here on are due by. */
    void of(String words) {
        sentence = "[" + words + "] ";
    }

    void same(String what, long due, long got) {
        asked++;
        if (due != got) {
            tell(what + " answered " + got + ", due is " + due);
        }
    }

    void text(String what, String due, String got) {
        asked++;
        if (!due.equals(got)) {
            tell(what + "\n due " + due + "\n got " + got);
        }
    }

    void yes(String what, boolean got) {
        same(what, 1, got ? 1 : 0);
    }

    void no(String what, boolean got) {
        same(what, 0, got ? 1 : 0);
    }

    void refuses(String what, Class<? extends RuntimeException> due, Runnable call) {
        asked++;
        try {
            call.run();
        } catch (RuntimeException e) {
            if (e.getClass() != due) {
                tell(what + " threw " + e.getClass().getName() + ", due is " + due.getName());
            }
            return;
        }
        tell(what + " threw nothing, due is " + due.getName());
    }

    void illegal(String what, Runnable call) {
        refuses(what, IllegalArgumentException.class, call);
    }

    void full(String what, Runnable call) {
        refuses(what, IllegalStateException.class, call);
    }

    void end() {
        System.out.println(asked + " answers, " + wrong + " not as due");
        if (wrong != 0 || asked == 0) {
            System.exit(1);
        }
    }

    private void tell(String what) {
        wrong++;
        if (wrong <= MOST_TOLD) {
            System.out.println(sentence + what);
        }
    }
}
