import java.util.Arrays;
import java.util.Set;
import java.util.TreeSet;

/** Promises 11 to 15: what the callback answers, calls and their outcomes, what was asked and given. */
public final class CallTest {
    private static final Check CHECK = new Check();
    private static final int NONE = ProxyForge.NONE;
    private static final int INTERCEPTED = 0;
    private static final int FIXED = 1;
    private static final int SUPER = 2;
    private static final int DISPATCHED = 3;
    private static final int PUBLIC = 1;
    private static final int ABSTRACT = 33;
    // The class with the slot, an interface, a child of the class; throwables: two checked ones, an error, another one.
    private static final int CLASS = 4;
    private static final int FACE = 5;
    private static final int CHILD = 6;
    private static final int CHECKED = 7;
    private static final int CHECKED_CHILD = 8;
    private static final int OWN_ERROR = 9;
    private static final int OWN_RUNTIME = 10;
    private static final int TYPES = 11;
    private static final int[] FAR = {Integer.MIN_VALUE, -2, -1, 24, 25, 60, Integer.MAX_VALUE};
    // What the callback answers in the tables: null, the boxes, objects of OBJECT, CLASS, FACE and CHILD.
    private static final int[][] ANSWERS = {{0, 0}, {1, 7}, {2, 8}, {3, 1}, {4, 0}, {4, CLASS}, {4, FACE}, {4, CHILD}};
    private static final int[] RETURNED = {0, 1, 2, 3, 4, 4 + CLASS, 4 + FACE};

    public static void main(String[] args) {
        noSuchAnswer();
        refusedAnswers();
        lowestBitsOfAnswers();
        typesThatAreThereByNow();
        returnedByCallback();
        returnedByOriginals();
        returnedByDispatched();
        dispatchedToInterface();
        thrownByIntercepted();
        thrownByOthers();
        notUndeclared();
        outcomesByPolicy();
        policyOfWhenItWasMade();
        throwsOfWhenItWasMade();
        subtypesAsTheyAreNow();
        noSuchSlot();
        resultsOfEachOutcome();
        resultBeforeAny();
        resultsStay();
        askedByEachPolicy();
        askedOfAProxyBefore();
        argumentsOfEachKind();
        argumentsOfTypes();
        noSuchArgument();
        givenByInterceptedAlone();
        givenOfAProxyBefore();
        CHECK.end();
    }

    private static Renewed some() {
        Renewed x = new Renewed();
        Make.base(x, 5, 0, 0);
        x.type(true, 1, 0, 0);
        x.type(false, 1, 0, CLASS);
        x.type(false, 1, 0, 1);
        x.type(false, 1, 0, CHECKED);
        x.type(false, 1, 0, 2);
        x.type(false, 1, 0, 3);
        return x;
    }

    /** A proxy with one slot, a method m1 of CLASS. */
    private static Renewed one(int policy, int flags, int parameters, int returned) {
        Renewed x = some();
        x.method(CLASS, 1, flags, parameters, returned);
        x.policy(1, policy);
        CHECK.same("forge", 0, Make.forge(x, CLASS));
        return x;
    }

    private static void outcome(String what, Renewed x, int due, long result) {
        CHECK.same(what, due, x.call(0, 0, 0, 0, 0));
        CHECK.same(what + ": result", result, x.result());
    }

    private static void noSuchAnswer() {
        CHECK.of("Promise 11: IllegalArgumentException: there is no such kind, type, or it can't be thrown");
        Renewed x = some();
        for (int kind : new int[] {Integer.MIN_VALUE, -2, -1, 6, 7, Integer.MAX_VALUE}) {
            CHECK.illegal("kind " + kind, () -> x.answer(kind, 1));
        }
        for (int type = -2; type < TYPES + 10; type++) {
            int t = type;
            boolean there = type >= 0 && type < TYPES;
            if (there) {
                x.answer(4, type);
            } else {
                CHECK.illegal("an object of " + type, () -> x.answer(4, t));
            }
            if (there && x.isSubtype(type, 1)) {
                x.answer(5, type);
            } else {
                CHECK.illegal("thrown: " + type, () -> x.answer(5, t));
            }
        }
        for (long wide : new long[] {Long.MIN_VALUE, 1L << 32, (1L << 32) + 1, -1L << 32, Long.MAX_VALUE}) {
            CHECK.illegal("an object of " + wide, () -> x.answer(4, wide));
            CHECK.illegal("thrown: " + wide, () -> x.answer(5, wide));
        }
    }

    private static void refusedAnswers() {
        CHECK.of("Promise 11: a refused answer is not told: THE CALLBACK answers as was told last");
        Renewed x = one(INTERCEPTED, PUBLIC, 0, 1);
        x.answer(1, 8);
        CHECK.illegal("kind", () -> x.answer(6, 9));
        outcome("after a wrong kind", x, 0, 8);
        CHECK.illegal("type", () -> x.answer(4, TYPES));
        outcome("after a wrong type", x, 0, 8);
        CHECK.illegal("thrown", () -> x.answer(5, 0));
        outcome("after what can't be thrown", x, 0, 8);
        x.answer(1, 9);
        outcome("what was told last", x, 0, 9);
        outcome("from now on", x, 0, 9);
        x.answer(0, 9);
        outcome("null", x, 2, 0);
    }

    private static void lowestBitsOfAnswers() {
        CHECK.of("Promise 11: 1 an Integer (of its lowest 32 bits), 2 a Long, 3 a Boolean (its lowest bit)");
        long[] values = {0, 1, -1, 2, 3, 1L << 31, (1L << 31) - 1, -1L << 31, 1L << 32, (1L << 32) + 5, 0x1_8000_0001L,
            Long.MIN_VALUE, Long.MAX_VALUE, Long.MIN_VALUE + 1};
        long[] ints = {0, 1, -1, 2, 3, Integer.MIN_VALUE, Integer.MAX_VALUE, Integer.MIN_VALUE, 0, 5, -0x7FFFFFFF,
            0, -1, 1};
        long[] bits = {0, 1, 1, 0, 1, 0, 1, 0, 0, 1, 1, 0, 1, 1};
        for (int policy = INTERCEPTED; policy <= FIXED; policy++) {
            for (int i = 0; i < values.length; i++) {
                Renewed x = one(policy, PUBLIC, 0, 1);
                x.answer(1, values[i]);
                outcome("Integer of " + values[i], x, 0, ints[i]);
                x = one(policy, PUBLIC, 0, 2);
                x.answer(2, values[i]);
                outcome("Long of " + values[i], x, 0, values[i]);
                x = one(policy, PUBLIC, 0, 3);
                x.answer(3, values[i]);
                outcome("Boolean of " + values[i], x, 0, bits[i]);
            }
        }
    }

    private static void typesThatAreThereByNow() {
        CHECK.of("Promise 11: 4 an object of a type, 5 it throws one");
        Renewed x = one(FIXED, PUBLIC, 0, 4);
        CHECK.illegal("not yet", () -> x.answer(4, TYPES));
        CHECK.illegal("not yet", () -> x.answer(5, TYPES));
        x.type(false, 1, 0, 1);
        x.answer(4, TYPES);
        outcome("by now", x, 0, TYPES);
        x.answer(5, TYPES);
        outcome("by now", x, 1, TYPES);
    }

    /** Each line is for a returned kind: outcome and number for each of the answers. */
    private static final String[] BACK = {
        "0 0, 0 0, 0 0, 0 0, 0 0, 0 0, 0 0, 0 0",
        "2 0, 0 7, 3 0, 3 0, 3 0, 3 0, 3 0, 3 0",
        "2 0, 3 0, 0 8, 3 0, 3 0, 3 0, 3 0, 3 0",
        "2 0, 3 0, 3 0, 0 1, 3 0, 3 0, 3 0, 3 0",
        "0 -1, 0 -2, 0 -3, 0 -4, 0 0, 0 4, 0 5, 0 6",
        "0 -1, 3 0, 3 0, 3 0, 3 0, 0 4, 3 0, 0 6",
        "0 -1, 3 0, 3 0, 3 0, 3 0, 3 0, 0 5, 3 0",
    };

    private static void table(String what, int policy, int flags, String[] due) {
        for (int r = 0; r < RETURNED.length; r++) {
            String[] cells = due[r].split(", ");
            for (int a = 0; a < ANSWERS.length; a++) {
                Renewed x = one(policy, flags, 0, RETURNED[r]);
                x.answer(ANSWERS[a][0], ANSWERS[a][1]);
                String call = what + " returning " + RETURNED[r] + ", answer " + ANSWERS[a][0] + " " + ANSWERS[a][1];
                int outcome = x.call(0, 0, 0, 0, 0);
                CHECK.text(call, cells[a], outcome + " " + x.result());
            }
        }
    }

    private static void returnedByCallback() {
        CHECK.of("RETURNED (0), as was answered; NULL POINTER (2): null where a number must be; CLASS CAST (3)");
        for (int flags : new int[] {PUBLIC, ABSTRACT}) {
            table("INTERCEPTED", INTERCEPTED, flags, BACK);
            table("FIXED", FIXED, flags, BACK);
        }
    }

    private static void returnedByOriginals() {
        CHECK.of("ORIGINALS: a method that isn't ABSTRACT returns 0 or null; ABSTRACT (5): SUPER, and the method is ABSTRACT");
        String zeros = "0 0, 0 0, 0 0, 0 0, 0 0, 0 0, 0 0, 0 0";
        String nulls = zeros.replace("0 0", "0 -1");
        table("SUPER", SUPER, PUBLIC, new String[] {zeros, zeros, zeros, zeros, nulls, nulls, nulls});
        String fives = zeros.replace("0 0", "5 0");
        table("SUPER", SUPER, ABSTRACT, new String[] {fives, fives, fives, fives, fives, fives, fives});
        for (int type : new int[] {1, 2, 3, CHECKED}) {
            Renewed x = one(SUPER, PUBLIC, 0, 1);
            x.answer(5, type);
            outcome("SUPER asks no callback that would throw", x, 0, 0);
            x = one(SUPER, ABSTRACT, 0, 1);
            x.answer(5, type);
            outcome("SUPER asks no callback that would throw", x, 5, 0);
        }
    }

    private static void returnedByDispatched() {
        CHECK.of("NULL POINTER: null to dispatch to; CLASS CAST: no subtype; ABSTRACT (5): DISPATCHED (to an object that is right)");
        String numbers = "2 0, 3 0, 3 0, 3 0, 3 0, 0 0, 3 0, 0 0";
        String types = "2 0, 3 0, 3 0, 3 0, 3 0, 0 -1, 3 0, 0 -1";
        table("DISPATCHED", DISPATCHED, PUBLIC, new String[] {numbers, numbers, numbers, numbers, types, types, types});
        String fives = "2 0, 3 0, 3 0, 3 0, 3 0, 5 0, 3 0, 5 0";
        table("DISPATCHED", DISPATCHED, ABSTRACT, new String[] {fives, fives, fives, fives, fives, fives, fives});
    }

    private static void dispatchedToInterface() {
        CHECK.of("DISPATCHED: an object that is no subtype (of the slot's type, here an interface)");
        for (int flags : new int[] {PUBLIC, ABSTRACT}) {
            Renewed x = some();
            x.method(FACE, 1, flags, 0, 2);
            x.policy(1, DISPATCHED);
            CHECK.same("forge", 0, Make.forge(x, CLASS, FACE));
            x.answer(4, CLASS);
            outcome("C has not that interface", x, 3, 0);
            x.answer(4, FACE);
            outcome("an object of it", x, flags == ABSTRACT ? 5 : 0, 0);
            x.answer(1, 5);
            outcome("a box", x, 3, 0);
        }
    }

    private static void thrownByIntercepted() {
        CHECK.of("UNDECLARED (4): thrown, but no subtype of ERROR, RUNTIME EXCEPTION, or of one that the slot THROWS");
        int[] thrown = {1, 2, 3, CHECKED, CHECKED_CHILD, OWN_ERROR, OWN_RUNTIME};
        int[][] said = {{}, {CHECKED_CHILD}, {CHECKED}, {3, 2, CHECKED}, {2, 3}, {OWN_ERROR}, {1}, {CHECKED_CHILD, 1}};
        String[] due = {"4 1 1 4 4 1 1", "4 1 1 4 1 1 1", "4 1 1 1 1 1 1", "4 1 1 1 1 1 1", "4 1 1 4 4 1 1",
            "4 1 1 4 4 1 1", "1 1 1 1 1 1 1", "1 1 1 1 1 1 1"};
        for (int s = 0; s < said.length; s++) {
            for (int t = 0; t < thrown.length; t++) {
                for (int returned : RETURNED) {
                    Renewed x = some();
                    int m = x.method(CLASS, 1, PUBLIC, 0, returned);
                    for (int type : said[s]) {
                        x.throwing(m, type);
                    }
                    Make.forge(x, CLASS);
                    x.answer(5, thrown[t]);
                    outcome("thrown " + thrown[t] + ", said " + Arrays.toString(said[s]), x,
                            due[s].charAt(2 * t) - '0', thrown[t]);
                }
            }
        }
    }

    private static void thrownByOthers() {
        CHECK.of("What is thrown by FIXED or DISPATCHED is THROWN as it is");
        for (int policy : new int[] {FIXED, DISPATCHED}) {
            for (int type : new int[] {1, 2, 3, CHECKED, CHECKED_CHILD, OWN_ERROR, OWN_RUNTIME}) {
                for (int flags : new int[] {PUBLIC, ABSTRACT}) {
                    Renewed x = one(policy, flags, 0, 1);
                    x.answer(5, type);
                    outcome("thrown " + type, x, 1, type);
                }
            }
        }
    }

    private static void notUndeclared() {
        CHECK.of("What 2, 3 and 5 throw is not UNDECLARED (they are RUNTIME EXCEPTIONS, an ERROR)");
        Renewed x = some();
        int m = x.method(CLASS, 1, PUBLIC, 0, 1);
        x.throwing(m, CHECKED);
        Make.forge(x, CLASS);
        outcome("null", x, 2, 0);
        x.answer(2, 1);
        outcome("another box", x, 3, 0);
        x.policy(1, SUPER);
        int inherited = x.method(CLASS, 2, ABSTRACT, 0, 1);
        x.throwing(inherited, CHECKED);
        x.policy(2, SUPER);
        Make.forge(x, CLASS);
        CHECK.same("ABSTRACT", 5, x.call(1, 0, 0, 0, 0));
    }

    private static void outcomesByPolicy() {
        CHECK.of("The outcomes, 0 .. 5, that a slot of each POLICY can have");
        String[] due = {"[0, 1, 2, 3, 4]", "[0, 1, 2, 3]", "[0, 5]", "[0, 1, 2, 3, 5]"};
        for (int policy = 0; policy < 4; policy++) {
            Set<Integer> found = new TreeSet<>();
            for (int flags : new int[] {PUBLIC, ABSTRACT}) {
                for (int returned : RETURNED) {
                    Renewed x = one(policy, flags, 0, returned);
                    for (int[] answer : ANSWERS) {
                        x.answer(answer[0], answer[1]);
                        found.add(x.call(0, 0, 0, 0, 0));
                    }
                    for (int thrown = CHECKED; thrown <= OWN_RUNTIME; thrown++) {
                        x.answer(5, thrown);
                        found.add(x.call(0, 0, 0, 0, 0));
                    }
                }
            }
            CHECK.text("policy " + policy, due[policy], found.toString());
        }
    }

    private static void policyOfWhenItWasMade() {
        CHECK.of("CALLING: its POLICY is that of when the proxy was made");
        for (int made = 0; made < 4; made++) {
            for (int later = 0; later < 4; later++) {
                Renewed x = one(made, PUBLIC, 2, 1);
                x.policy(1, later);
                x.answer(1, 5);
                int due = made == DISPATCHED ? 3 : 0;
                outcome("made " + made + ", later " + later, x, due, made <= FIXED ? 5 : 0);
                CHECK.same("asked", made == SUPER ? NONE : 0, x.asked());
                CHECK.same("given", made == INTERCEPTED ? 2 : NONE, x.given(0, 0));
            }
        }
    }

    private static void throwsOfWhenItWasMade() {
        CHECK.of("CALLING: what it THROWS is that of when the proxy was made");
        Renewed x = one(INTERCEPTED, PUBLIC, 0, 0);
        int m = x.slot(0);
        x.answer(5, CHECKED_CHILD);
        outcome("nothing said", x, 4, CHECKED_CHILD);
        x.throwing(m, CHECKED);
        outcome("said behind the forging", x, 4, CHECKED_CHILD);
        Make.forge(x, CLASS);
        outcome("forged again", x, 1, CHECKED_CHILD);
        x.answer(5, 1);
        outcome("above what is said", x, 4, 1);
        x.throwing(m, 1);
        outcome("said behind the forging", x, 4, 1);
        CHECK.same("refused", 3, x.forge(CLASS, CLASS, NONE, NONE));
        outcome("the one before stays", x, 4, 1);
        Make.forge(x, CLASS);
        outcome("forged again", x, 1, 1);
    }

    private static void subtypesAsTheyAreNow() {
        CHECK.of("CALLING: of what a type is a subtype, as it is now");
        for (int policy : new int[] {INTERCEPTED, FIXED}) {
            Renewed x = one(policy, PUBLIC, 0, 4 + FACE);
            x.answer(4, CHILD);
            outcome("not yet", x, 3, 0);
            x.implement(CLASS, FACE);
            outcome("by now", x, 0, CHILD);
        }
        Renewed x = some();
        x.method(FACE, 1, PUBLIC, 0, 4);
        x.policy(1, DISPATCHED);
        Make.forge(x, CLASS, FACE);
        x.answer(4, CHILD);
        outcome("not yet", x, 3, 0);
        x.implement(CHILD, FACE);
        outcome("by now", x, 0, NONE);
    }

    private static void noSuchSlot() {
        CHECK.of("Promise 12: IllegalArgumentException: there is no such slot");
        Renewed x = one(INTERCEPTED, PUBLIC, 1, 1);
        x.answer(1, 6);
        CHECK.same("slot 0", 0, x.call(0, 44, 0, 0, 0));
        CHECK.illegal("slot 1", () -> x.call(1, 45, 0, 0, 0));
        for (int far : FAR) {
            CHECK.illegal("slot " + far, () -> x.call(far, 45, 0, 0, 0));
        }
        CHECK.same("nothing was given", 44, x.given(0, 1));
        CHECK.same("nothing was asked", 0, x.asked());
        CHECK.same("the latest outcome stays", 6, x.result());
        Make.forge(x, 0);
        CHECK.illegal("slot 0 of a proxy without slots", () -> x.call(0, 0, 0, 0, 0));
        Renewed y = some();
        for (int m = 0; m < 24; m++) {
            y.method(CLASS, m % 10, PUBLIC, m / 10, 2);
        }
        Make.forge(y, CLASS);
        y.answer(2, 9);
        CHECK.same("slot 23", 0, y.call(23, 0, 0, 0, 0));
        CHECK.same("slot 23", 23, y.asked());
        CHECK.illegal("slot 24", () -> y.call(24, 0, 0, 0, 0));
    }

    private static void resultsOfEachOutcome() {
        CHECK.of("Promise 13: The number, or type, of the latest outcome (of 2, 3, 5, and nothing returned, 0)");
        Renewed x = some();
        x.method(CLASS, 0, PUBLIC, 0, 2);
        x.method(CLASS, 1, PUBLIC, 0, 0);
        x.method(CLASS, 2, ABSTRACT, 0, 2);
        x.policy(2, SUPER);
        x.method(CLASS, 3, PUBLIC, 0, 4);
        Make.forge(x, CLASS);
        long[][] calls = {
            {2, -77, 0, 0, -77}, {0, 0, 0, 2, 0}, {2, -77, 0, 0, -77}, {1, 5, 0, 3, 0}, {2, -77, 0, 0, -77},
            {2, -77, 1, 0, 0}, {2, -77, 0, 0, -77}, {2, -77, 2, 5, 0}, {5, 3, 0, 1, 3}, {5, 3, 1, 1, 3},
            {5, CHECKED, 0, 4, CHECKED}, {0, 0, 3, 0, NONE}, {4, FACE, 3, 0, FACE}, {3, 1, 3, 0, -4},
        };
        for (long[] c : calls) {
            x.answer((int) c[0], c[1]);
            CHECK.same("answer " + c[0] + ", slot " + c[2], c[3], x.call((int) c[2], 0, 0, 0, 0));
            CHECK.same("result of that", c[4], x.result());
        }
    }

    private static void resultBeforeAny() {
        CHECK.of("Promise 13: 0 before any");
        Renewed x = one(INTERCEPTED, PUBLIC, 0, 2);
        x.answer(2, 9);
        CHECK.same("before any", 0, x.result());
        CHECK.illegal("no slot", () -> x.call(5, 0, 0, 0, 0));
        CHECK.same("before any", 0, x.result());
        x.call(0, 0, 0, 0, 0);
        CHECK.same("by now", 9, x.result());
    }

    private static void resultsStay() {
        CHECK.of("Promise 13: of the latest outcome, whatever else is done");
        Renewed x = one(INTERCEPTED, PUBLIC, 0, 2);
        x.answer(2, 9);
        x.call(0, 0, 0, 0, 0);
        x.answer(2, 10);
        x.change(0, 1);
        x.cut(3);
        x.policy(1, SUPER);
        CHECK.same("result", 9, x.result());
        Make.forge(x, CLASS);
        CHECK.same("with a new proxy", 9, x.result());
        x.call(0, 0, 0, 0, 0);
        CHECK.same("an original", 0, x.result());
    }

    private static void askedByEachPolicy() {
        CHECK.of("Promise 14: asked for last (also for a FIXED or DISPATCHED one); NONE if it never was");
        Renewed x = some();
        for (int name = 0; name < 4; name++) {
            x.method(CLASS, name, PUBLIC, 1, 0);
            x.policy(name, name);
        }
        Make.forge(x, CLASS);
        CHECK.same("never", NONE, x.asked());
        x.call(SUPER, 7, 0, 0, 0);
        CHECK.same("SUPER asks none", NONE, x.asked());
        int[] order = {DISPATCHED, INTERCEPTED, FIXED, DISPATCHED, FIXED, INTERCEPTED};
        for (int policy : order) {
            for (int[] answer : new int[][] {{0, 0}, {1, 1}, {4, CLASS}, {5, 1}}) {
                x.answer(answer[0], answer[1]);
                x.call(policy, 7, 0, 0, 0);
                CHECK.same("policy " + policy + ", answer " + answer[0], policy, x.asked());
                x.call(SUPER, 7, 0, 0, 0);
                CHECK.same("SUPER asks none", policy, x.asked());
            }
        }
    }

    private static void askedOfAProxyBefore() {
        CHECK.of("Promise 14: The slot, by its number then (also of a proxy before)");
        Renewed x = some();
        x.method(CLASS, 0, PUBLIC, 0, 0);
        x.method(CLASS, 1, PUBLIC, 0, 0);
        Make.forge(x, CLASS);
        x.call(1, 0, 0, 0, 0);
        x.method(CLASS, 2, PUBLIC, 0, 0);
        int child = Make.base(x, 1, 0, CLASS);
        x.method(child, 1, PUBLIC, 0, 0);
        Make.forge(x, child);
        CHECK.same("m1 has another number by now", 1, x.asked());
        Make.forge(x, 0);
        CHECK.same("of a proxy without slots", 1, x.asked());
        CHECK.same("refused", 1, x.forge(FACE, NONE, NONE, NONE));
        CHECK.same("refused", 1, x.asked());
        Make.forge(x, child);
        x.call(0, 0, 0, 0, 0);
        CHECK.same("asked anew", 0, x.asked());
    }

    private static void given(String what, Renewed x, int i, long kind, long number) {
        CHECK.same(what + ": kind", kind, x.given(i, 0));
        CHECK.same(what + ": number", number, x.given(i, 1));
    }

    private static void argumentsOfEachKind() {
        CHECK.of("of an int, boolean (its lowest bit), the lowest 32 bits count; 1 Integer, 2 Long, 3 Boolean");
        long[] values = {0, 1, -1, 2, 1L << 31, 1L << 32, (1L << 32) + 3, Long.MIN_VALUE, Long.MAX_VALUE};
        long[] ints = {0, 1, -1, 2, Integer.MIN_VALUE, 0, 3, 0, -1};
        long[] bits = {0, 1, 1, 0, 0, 0, 1, 0, 1};
        for (int i = 0; i < values.length; i++) {
            long v = values[i];
            Renewed x = one(INTERCEPTED, PUBLIC, Make.parameters(1, 2, 3, 1), 0);
            x.call(0, v, v, v, v);
            given("int " + v, x, 0, 1, ints[i]);
            given("long " + v, x, 1, 2, v);
            given("boolean " + v, x, 2, 3, bits[i]);
            given("int " + v, x, 3, 1, ints[i]);
        }
        Renewed x = one(INTERCEPTED, PUBLIC, Make.parameters(2, 2, 2, 2), 0);
        x.call(0, 11, 12, 13, 14);
        for (int i = 0; i < 4; i++) {
            given("argument " + i, x, i, 2, 11 + i);
        }
    }

    private static void argumentsOfTypes() {
        CHECK.of("of types: the number of a type: an object of it, or, if it is none, null; it isn't asked whether it is a subtype");
        Renewed x = one(INTERCEPTED, PUBLIC, Make.parameters(4 + CLASS), 0);
        for (int type = 0; type < TYPES; type++) {
            x.call(0, type, 0, 0, 0);
            given("an object of " + type, x, 0, 4 + type, 0);
        }
        for (long none : new long[] {-1, -2, TYPES, 20, 1L << 32, (1L << 32) + 4, Long.MIN_VALUE, Long.MAX_VALUE}) {
            x.call(0, 4, 0, 0, 0);
            x.call(0, none, 0, 0, 0);
            given("null for " + none, x, 0, 0, 0);
        }
        x.type(false, 1, 0, 0);
        given("what was given stays null", x, 0, 0, 0);
        x.call(0, TYPES, 0, 0, 0);
        given("a type by now", x, 0, 4 + TYPES, 0);
    }

    private static void noSuchArgument() {
        CHECK.of("Promise 15: NONE if there is none, or for another what");
        for (int n = 0; n <= 4; n++) {
            int[] kinds = new int[n];
            Arrays.fill(kinds, 1);
            Renewed x = one(INTERCEPTED, PUBLIC, Make.parameters(kinds), 0);
            given("before any", x, 0, NONE, NONE);
            x.call(0, 5, 5, 5, 5);
            for (int i = -2; i < 7; i++) {
                boolean there = i >= 0 && i < n;
                given("argument " + i + " of " + n, x, i, there ? 1 : NONE, there ? 5 : NONE);
                for (int what : new int[] {Integer.MIN_VALUE, -1, 2, 3, Integer.MAX_VALUE}) {
                    CHECK.same("what " + what, NONE, x.given(i, what));
                }
            }
            given("far off", x, Integer.MIN_VALUE, NONE, NONE);
            given("far off", x, Integer.MAX_VALUE, NONE, NONE);
        }
    }

    private static void givenByInterceptedAlone() {
        CHECK.of("Promise 15: An argument which it was given last (it had at least that, being INTERCEPTED)");
        Renewed x = some();
        for (int name = 0; name < 4; name++) {
            x.method(CLASS, name, PUBLIC, Make.parameters(1, 2), 0);
            x.policy(name, name);
        }
        x.method(CLASS, 0, PUBLIC, 1, 0);
        x.method(CLASS, 0, PUBLIC, 0, 0);
        Make.forge(x, CLASS);
        for (int policy = FIXED; policy <= DISPATCHED; policy++) {
            x.call(policy, 1, 2, 3, 4);
            given("policy " + policy + " gives nothing", x, 0, NONE, NONE);
        }
        x.call(INTERCEPTED, 11, 12, 13, 14);
        given("first", x, 0, 1, 11);
        given("second", x, 1, 2, 12);
        given("no third", x, 2, NONE, NONE);
        for (int policy = FIXED; policy <= DISPATCHED; policy++) {
            x.call(policy, 1, 2, 3, 4);
            given("policy " + policy + " gives nothing: the last ones stay", x, 0, 1, 11);
            given("policy " + policy + " gives nothing: the last ones stay", x, 1, 2, 12);
        }
        x.call(4, 21, 22, 23, 24);
        given("a slot with one parameter", x, 0, 1, 21);
        given("it had no second", x, 1, NONE, NONE);
        x.call(5, 31, 32, 33, 34);
        given("a slot without parameters", x, 0, NONE, NONE);
        x.answer(5, 1);
        x.call(INTERCEPTED, 41, 42, 43, 44);
        given("also when the callback throws", x, 0, 1, 41);
        given("also when the callback throws", x, 1, 2, 42);
    }

    private static void givenOfAProxyBefore() {
        CHECK.of("Promise 15: what was given last can be asked, also with another proxy");
        Renewed x = one(INTERCEPTED, PUBLIC, Make.parameters(2, 4), 0);
        x.call(0, 6, CHILD, 0, 0);
        Make.forge(x, 0);
        given("first", x, 0, 2, 6);
        given("second", x, 1, 4 + CHILD, 0);
        CHECK.same("refused", 1, x.forge(FACE, NONE, NONE, NONE));
        given("first", x, 0, 2, 6);
    }
}
