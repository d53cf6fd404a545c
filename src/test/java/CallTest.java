/** Promises 11 to 15: what the callback answers, calls and their outcomes, what was asked and given. */
public final class CallTest {
    private static final Check CHECK = new Check();
    private static final int NONE = ProxyForge.NONE;
    private static final int INTERCEPTED = 0;
    private static final int FIXED = 1;
    private static final int SUPER = 2;
    private static final int DISPATCHED = 3;

    public static void main(String[] args) {
        wrongAnswers();
        numbersBack();
        typesBack();
        nothingBack();
        thrownByIntercepted();
        thrownByOthers();
        originals();
        dispatched();
        settledWhenMade();
        subtypesAsTheyAreNow();
        wrongCalls();
        askedSlots();
        givenArguments();
        CHECK.end();
    }

    /** A class (4) and an interface (5), with one method m1 of the class: slot 0. */
    private static ProxyForge one(int policy, int flags, int parameters, int returned) {
        ProxyForge x = new ProxyForge();
        x.type(false, 5, 0, 0);
        x.type(true, 1, 0, 0);
        x.method(4, 10, 1, 0, 0);
        x.method(4, 1, flags, parameters, returned);
        x.policy(1, policy);
        CHECK.same("forge", 0, x.forge(4, NONE, NONE, NONE));
        return x;
    }

    private static void outcome(String what, ProxyForge x, int due, long result) {
        CHECK.same(what, due, x.call(0, 0, 0, 0, 0));
        CHECK.same(what + ": result", result, x.result());
    }

    private static void wrongAnswers() {
        ProxyForge x = one(INTERCEPTED, 1, 0, 1);
        x.answer(1, 8);
        CHECK.illegal("kind -1", () -> x.answer(-1, 0));
        CHECK.illegal("kind 6", () -> x.answer(6, 0));
        CHECK.illegal("no type", () -> x.answer(4, 6));
        CHECK.illegal("no type", () -> x.answer(4, -1));
        CHECK.illegal("no type, though its lowest bits are", () -> x.answer(4, 1L << 32));
        CHECK.illegal("no type to throw", () -> x.answer(5, 6));
        CHECK.illegal("can't be thrown", () -> x.answer(5, 0));
        CHECK.illegal("can't be thrown", () -> x.answer(5, 4));
        CHECK.illegal("can't be thrown", () -> x.answer(5, 5));
        CHECK.illegal("no type to throw", () -> x.answer(5, (1L << 32) + 1));
        outcome("as was told last", x, 0, 8);
    }

    private static void numbersBack() {
        for (int policy = INTERCEPTED; policy <= FIXED; policy++) {
            for (int kind = 1; kind <= 3; kind++) {
                ProxyForge x = one(policy, 33, 0, kind);
                outcome("null", x, 2, 0);
                for (int box = 1; box <= 3; box++) {
                    x.answer(box, -1L << 31);
                    outcome("box " + box + " for " + kind, x, box == kind ? 0 : 3, box != kind || kind == 3 ? 0 : -1L << 31);
                }
                x.answer(4, 0);
                outcome("an object for a number", x, 3, 0);
            }
            ProxyForge x = one(policy, 1, 0, 1);
            x.answer(1, 0x1_8000_0001L);
            outcome("the lowest 32 bits", x, 0, -0x7FFFFFFFL);
            x = one(policy, 1, 0, 2);
            x.answer(2, Long.MIN_VALUE);
            outcome("a whole long", x, 0, Long.MIN_VALUE);
            x = one(policy, 1, 0, 3);
            x.answer(3, -1);
            outcome("the lowest bit", x, 0, 1);
            x.answer(3, 6);
            outcome("the lowest bit", x, 0, 0);
        }
    }

    private static void typesBack() {
        for (int policy = INTERCEPTED; policy <= FIXED; policy++) {
            ProxyForge x = one(policy, 1, 0, 4);
            outcome("null as an object", x, 0, NONE);
            for (int box = 1; box <= 3; box++) {
                x.answer(box, 77);
                outcome("a box as an object", x, 0, -1 - box);
            }
            x.answer(4, 5);
            outcome("anything is an object", x, 0, 5);
            x = one(policy, 1, 0, 8);
            outcome("null", x, 0, NONE);
            x.answer(1, 4);
            outcome("a box is no T4", x, 3, 0);
            x.answer(4, 4);
            outcome("T4", x, 0, 4);
            x.answer(4, 0);
            outcome("an object is no T4", x, 3, 0);
            x.answer(4, 5);
            outcome("T5 is no T4", x, 3, 0);
            x.answer(4, x.type(false, 1, 1, 4));
            outcome("a child of T4", x, 0, 6);
        }
    }

    private static void nothingBack() {
        for (int policy = INTERCEPTED; policy <= FIXED; policy++) {
            ProxyForge x = one(policy, 1, 0, 0);
            for (int kind = 0; kind <= 4; kind++) {
                x.answer(kind, 3);
                outcome("nothing", x, 0, 0);
            }
        }
    }

    private static void thrownByIntercepted() {
        ProxyForge x = one(INTERCEPTED, 1, 0, 0);
        int checked = x.type(false, 1, 0, 1);
        int child = x.type(false, 1, 0, checked);
        int error = x.type(false, 1, 0, 2);
        x.answer(5, 1);
        outcome("a throwable", x, 4, 1);
        x.answer(5, 2);
        outcome("an error", x, 1, 2);
        x.answer(5, 3);
        outcome("a runtime exception", x, 1, 3);
        x.answer(5, error);
        outcome("a child of error", x, 1, error);
        x.answer(5, child);
        outcome("undeclared", x, 4, child);
        x.throwing(5, checked);
        outcome("what it threw when it was made counts", x, 4, child);
        x.forge(4, NONE, NONE, NONE);
        outcome("declared by the parent", x, 1, child);
        x.answer(5, checked);
        outcome("declared", x, 1, checked);
        x.answer(5, 1);
        outcome("above what is declared", x, 4, 1);
        x.throwing(5, 1);
        x.forge(4, NONE, NONE, NONE);
        outcome("it throws THROWABLE", x, 1, 1);
    }

    private static void thrownByOthers() {
        for (int policy : new int[] {FIXED, DISPATCHED}) {
            ProxyForge x = one(policy, 1, 0, 1);
            x.answer(5, 1);
            outcome("as it is", x, 1, 1);
        }
        ProxyForge x = one(SUPER, 1, 0, 1);
        x.answer(5, 1);
        outcome("SUPER asks no callback", x, 0, 0);
    }

    private static void originals() {
        for (int kind = 0; kind <= 3; kind++) {
            outcome("0", one(SUPER, 1, 0, kind), 0, 0);
        }
        outcome("null", one(SUPER, 1, 0, 4), 0, NONE);
        outcome("null", one(SUPER, 1, 0, 9), 0, NONE);
        outcome("ABSTRACT", one(SUPER, 33, 0, 4), 5, 0);
        CHECK.same("asked", NONE, one(SUPER, 1, 0, 4).asked());
    }

    private static void dispatched() {
        for (int flags : new int[] {1, 33}) {
            ProxyForge x = one(DISPATCHED, flags, 0, 4);
            outcome("to null", x, 2, 0);
            for (int box = 1; box <= 3; box++) {
                x.answer(box, 4);
                outcome("to a box", x, 3, 0);
            }
            x.answer(4, 0);
            outcome("to an object", x, 3, 0);
            x.answer(4, 4);
            outcome("to T4", x, flags == 33 ? 5 : 0, flags == 33 ? 0 : NONE);
            x.answer(4, x.type(false, 1, 1, 4));
            outcome("to a child of T4", x, flags == 33 ? 5 : 0, flags == 33 ? 0 : NONE);
        }
        ProxyForge x = one(DISPATCHED, 1, 0, 2);
        x.answer(4, 4);
        outcome("a number back", x, 0, 0);
    }

    private static void settledWhenMade() {
        ProxyForge x = one(FIXED, 1, 0, 1);
        x.policy(1, SUPER);
        x.answer(1, 5);
        outcome("FIXED as when it was made", x, 0, 5);
        x.change(0, 0);
        x.cut(0);
        outcome("calls know nothing of changed bytes", x, 0, 5);
        CHECK.same("refused", 3, x.forge(4, 4, NONE, NONE));
        outcome("the one before stays", x, 0, 5);
    }

    private static void subtypesAsTheyAreNow() {
        ProxyForge x = one(INTERCEPTED, 1, 0, 9);
        x.answer(4, 4);
        outcome("T4 is no T5", x, 3, 0);
        x.implement(4, 5);
        outcome("T4 is T5 by now", x, 0, 4);
    }

    private static void wrongCalls() {
        ProxyForge x = one(INTERCEPTED, 1, 1, 1);
        x.answer(1, 6);
        outcome("right", x, 0, 6);
        CHECK.illegal("slot 1", () -> x.call(1, 0, 0, 0, 0));
        CHECK.illegal("slot -1", () -> x.call(-1, 0, 0, 0, 0));
        CHECK.illegal("slot 24", () -> x.call(24, 0, 0, 0, 0));
        CHECK.same("the latest outcome stays", 6, x.result());
        x.forge(0, NONE, NONE, NONE);
        CHECK.same("and with another proxy", 6, x.result());
        CHECK.illegal("slot 0", () -> x.call(0, 0, 0, 0, 0));
    }

    private static void askedSlots() {
        ProxyForge x = new ProxyForge();
        x.type(false, 1, 0, 0);
        x.method(4, 10, 1, 0, 0);
        for (int name = 0; name < 4; name++) {
            x.method(4, name, 1, 1, 0);
            x.policy(name, 3 - name);
        }
        x.forge(4, NONE, NONE, NONE);
        CHECK.same("never", NONE, x.asked());
        x.call(1, 7, 0, 0, 0);
        CHECK.same("SUPER asks none", NONE, x.asked());
        x.call(0, 7, 0, 0, 0);
        CHECK.same("DISPATCHED", 0, x.asked());
        x.call(3, 7, 0, 0, 0);
        CHECK.same("INTERCEPTED", 3, x.asked());
        x.call(2, 7, 0, 0, 0);
        CHECK.same("FIXED", 2, x.asked());
        x.answer(5, 1);
        x.call(3, 8, 0, 0, 0);
        CHECK.same("one that throws was asked, too", 3, x.asked());
        CHECK.same("and was given", 8, x.given(0, 1));
        x.forge(0, NONE, NONE, NONE);
        CHECK.same("of a proxy before", 3, x.asked());
        CHECK.same("given of a proxy before", 8, x.given(0, 1));
    }

    private static void given(String what, ProxyForge x, int i, long kind, long number) {
        CHECK.same(what + ": kind", kind, x.given(i, 0));
        CHECK.same(what + ": number", number, x.given(i, 1));
    }

    private static void givenArguments() {
        ProxyForge x = one(INTERCEPTED, 1, 1 + 32 * (2 + 32 * (3 + 32 * 8)), 0);
        given("before any", x, 0, NONE, NONE);
        x.call(0, 0x1_FFFF_FFFFL, Long.MIN_VALUE, 2, 5);
        given("int", x, 0, 1, -1);
        given("long", x, 1, 2, Long.MIN_VALUE);
        given("boolean", x, 2, 3, 0);
        given("a type that is no subtype", x, 3, 9, 0);
        x.call(0, 0, 0, -1, 6);
        given("boolean", x, 2, 3, 1);
        given("null", x, 3, 0, 0);
        x.call(0, 0, 0, 0, 1L << 32);
        given("null, though its lowest bits are a type", x, 3, 0, 0);
        x.call(0, 0, 0, 0, -1);
        given("null", x, 3, 0, 0);
        x.call(0, 0, 0, 0, 0);
        given("an object", x, 3, 4, 0);
        given("no fifth", x, 4, NONE, NONE);
        given("none before the first", x, -1, NONE, NONE);
        CHECK.same("what 2", NONE, x.given(0, 2));
        CHECK.same("what -1", NONE, x.given(0, -1));
        x.method(4, 2, 1, 1, 0);
        x.method(4, 3, 1, 1, 0);
        x.policy(2, FIXED);
        x.forge(4, NONE, NONE, NONE);
        x.call(1, 9, 0, 0, 0);
        given("FIXED gives nothing: the last stays", x, 1, 2, 0);
        x.call(2, 9, 0, 0, 0);
        given("given last", x, 0, 1, 9);
        given("it had one alone", x, 1, NONE, NONE);
    }
}
