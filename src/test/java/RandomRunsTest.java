import java.util.ArrayList;
import java.util.List;
import java.util.Random;
import java.util.function.LongSupplier;

/** All promises: random runs of calls, answered as the model answers, files up to the last byte. */
public final class RandomRunsTest {
    private static final Check CHECK = new Check();
    private static final int RUNS = 1000;
    // The most that one step of a run may change.
    private static final int STEP = 40;
    // Numbers that wrap around when they are added to, doubled, turned or cut to fewer bits.
    private static final int[] FAR = {Integer.MIN_VALUE, Integer.MIN_VALUE + 1, Integer.MAX_VALUE, Integer.MAX_VALUE - 1,
        1 << 30, -(1 << 30), 1 << 16, -(1 << 16), 1 << 8, 255, 32, -32};

    private final Random random;
    private final int run;
    private final Renewed x = new Renewed();
    private final Model y = new Model();
    private int types = 4;
    private int methods = 4;
    private final List<Integer> classes = new ArrayList<>();
    private final List<Integer> faces = new ArrayList<>();

    private RandomRunsTest(int run) {
        this.run = run;
        this.random = new Random(run);
    }

    public static void main(String[] args) {
        int[] outcomes = new int[7];
        for (int run = 0; run < RUNS; run++) {
            new RandomRunsTest(run).go(outcomes);
        }
        System.out.println("forge answered 0 .. 6: " + java.util.Arrays.toString(outcomes));
        for (int refusal = 0; refusal < 7; refusal++) {
            CHECK.yes("forge answered " + refusal + " at times", outcomes[refusal] > 0);
        }
        CHECK.end();
    }

    /** An exception counts as a number of its own, so that both sides can be compared. */
    private static long answerOf(LongSupplier call) {
        try {
            return call.getAsLong();
        } catch (IllegalArgumentException e) {
            return Long.MIN_VALUE;
        } catch (IllegalStateException e) {
            return Long.MIN_VALUE + 1;
        }
    }

    private long both(String what, LongSupplier due, LongSupplier got) {
        long d = answerOf(due);
        CHECK.same("run " + run + ": " + what, d, answerOf(got));
        return d;
    }

    private int below(int n) {
        return random.nextInt(n);
    }

    private boolean rarely() {
        return below(25) == 0;
    }

    /** What is usual, but at times a number far from all that is. */
    private int perhapsFar(int usual) {
        return below(60) != 0 ? usual : below(4) == 0 ? usual + 32 * (below(5) - 2) : FAR[below(FAR.length)];
    }

    /** At times one whose lowest 32 bits are the number of a type. */
    private long anyLong() {
        return below(3) == 0 ? below(22) + (1L << 32) * (below(5) - 2) : random.nextLong();
    }

    private int anyType() {
        return perhapsFar(rarely() ? below(24) - 2 : below(types));
    }

    /** Few types with many methods: some proxies of these have more slots than there may be. */
    private boolean wide() {
        return run % 8 == 0;
    }

    private int oneOf(List<Integer> some) {
        return some.isEmpty() || rarely() ? anyType() : some.get(below(some.size()));
    }

    private int madeType() {
        return types == 4 || rarely() ? anyType() : 4 + below(types - 4);
    }

    private int anyKind() {
        return rarely() ? below(26) : below(3) == 0 ? 4 + below(types) : 1 + below(3);
    }

    private int anyParameters() {
        int parameters = 0;
        for (int n = below(5); n > 0; n--) {
            parameters = parameters * 32 + anyKind();
        }
        return rarely() ? parameters ^ (1 << below(32)) : parameters;
    }

    private void go(int[] outcomes) {
        int built = 20 + below(200);
        for (int step = 0; x.room() > STEP; step++) {
            if (step < built) {
                build();
            } else {
                use(outcomes);
            }
        }
    }

    private void build() {
        int what = below(12);
        if (what < 2) {
            makeType();
        } else if (what < 4) {
            int type = madeType();
            int face = madeType();
            both("implement(" + type + ", " + face + ")", () -> {
                y.implement(type, face);
                return 0;
            }, () -> {
                x.implement(type, face);
                return 0;
            });
        } else if (what < 10) {
            makeMethod();
        } else {
            makeThrown();
        }
    }

    private void makeType() {
        boolean face = below(2) == 0;
        if (wide() && types > 8) {
            return;
        }
        int usual = rarely() ? below(12) - 2 : face ? below(4) == 0 ? 0 : 1 : new int[] {0, 1, 1, 5, 5, 4, 3}[below(7)];
        int flags = perhapsFar(usual);
        int pack = perhapsFar(rarely() ? below(7) - 1 : below(2));
        int parent = rarely() ? anyType() : face ? 0 : anyType();
        long t = both("type", () -> y.type(face, flags, pack, parent), () -> x.type(face, flags, pack, parent));
        if (t > 0) {
            types = (int) t + 1;
            (face ? faces : classes).add((int) t);
            if (!face && !rarely()) {
                both("constructor", () -> y.method((int) t, 10, 1, 0, 0), () -> x.method((int) t, 10, 1, 0, 0));
                methods++;
            }
        }
    }

    private void makeMethod() {
        int type = madeType();
        int name = perhapsFar(below(6) == 0 ? 10 : rarely() ? below(14) - 2 : below(wide() ? 10 : run % 10 + 1));
        int usual = rarely() ? below(80) - 8 : new int[] {0, 1, 1, 1, 33, 33, 2, 17, 9, 4, 34, 18, 32}[below(13)];
        int flags = perhapsFar(usual);
        int parameters = perhapsFar(below(3) == 0 ? 0 : anyParameters());
        int returned = perhapsFar(name == 10 && !rarely() ? 0 : returnedKind(name));
        long m = both("method(" + type + ", " + name + ", " + flags + ", " + parameters + ", " + returned + ")",
                () -> y.method(type, name, flags, parameters, returned),
                () -> x.method(type, name, flags, parameters, returned));
        methods = m > 0 ? (int) m + 1 : methods;
    }

    /** Mostly the same for a name, as few proxies could be made otherwise. */
    private int returnedKind(int name) {
        return below(40) == 0 ? anyKind() : name < 4 ? name : 4 + (name + run) % 4;
    }

    private void makeThrown() {
        int method = perhapsFar(rarely() ? below(64) - 2 : below(methods));
        int type = below(3) == 0 ? anyType() : 1 + below(3);
        both("throwing(" + method + ", " + type + ")", () -> {
            y.throwing(method, type);
            return 0;
        }, () -> {
            x.throwing(method, type);
            return 0;
        });
    }

    private void use(int[] outcomes) {
        switch (below(14)) {
            case 0, 1 -> makeProxy(outcomes);
            case 2 -> {
                int name = perhapsFar(below(12) - 1);
                int kind = perhapsFar(below(6) - 1);
                both("policy", () -> y.policy(name, kind) ? 1 : 0, () -> x.policy(name, kind) ? 1 : 0);
            }
            case 3, 4 -> changeAnswer();
            case 5, 6, 7, 8 -> callSlot();
            case 9 -> changeFile();
            case 10 -> build();
            case 11 -> {
                int type = anyType();
                int of = anyType();
                both("isSubtype", () -> y.isSubtype(type, of) ? 1 : 0, () -> x.isSubtype(type, of) ? 1 : 0);
            }
            default -> lookAtSlots();
        }
    }

    private void makeProxy(int[] outcomes) {
        int type = oneOf(classes);
        int first = below(3) == 0 ? -1 : oneOf(faces);
        int second = first == -1 && !rarely() || below(2) == 0 ? -1 : oneOf(faces);
        int third = second == -1 && !rarely() || below(2) == 0 ? -1 : oneOf(faces);
        String what = "forge(" + type + ", " + first + ", " + second + ", " + third + ")";
        long refused = both(what, () -> y.forge(type, first, second, third), () -> x.forge(type, first, second, third));
        if (refused >= 0) {
            outcomes[(int) refused]++;
        }
        compareFiles(what);
        if (refused == 0) {
            CHECK.same("run " + run + ": a new file is right", -1, x.read());
        }
        lookAtSlots();
    }

    /** All bytes at times, as a long file is told by many new objects; else some. */
    private void compareFiles(String what) {
        CHECK.same("run " + run + ": size after " + what, y.size(), x.size());
        int wrong = 0;
        if (below(6) == 0) {
            for (int k = -1; k <= y.size(); k++) {
                wrong += y.byteAt(k) == x.byteAt(k) ? 0 : 1;
            }
        } else {
            for (int i = 0; i < 30; i++) {
                int k = below(y.size() + 2) - 1;
                wrong += y.byteAt(k) == x.byteAt(k) ? 0 : 1;
            }
        }
        CHECK.same("run " + run + ": wrong bytes after " + what, 0, wrong);
    }

    private void lookAtSlots() {
        both("slots", y::slots, x::slots);
        for (int k = -1; k <= y.slots(); k++) {
            int slot = k;
            both("slot", () -> y.slot(slot), () -> x.slot(slot));
        }
    }

    private void changeAnswer() {
        int kind = perhapsFar(rarely() ? below(9) - 2 : below(6));
        long value = kind > 3 && !rarely() ? below(types) : anyLong();
        both("answer(" + kind + ", " + value + ")", () -> {
            y.answer(kind, value);
            return 0;
        }, () -> {
            x.answer(kind, value);
            return 0;
        });
    }

    private void callSlot() {
        int slot = perhapsFar(rarely() || y.slots() == 0 ? below(27) - 1 : below(y.slots()));
        long[] a = new long[4];
        for (int i = 0; i < 4; i++) {
            a[i] = below(2) == 0 ? below(22) - 1 : anyLong();
        }
        both("call(" + slot + ")", () -> y.call(slot, a), () -> x.call(slot, a[0], a[1], a[2], a[3]));
        both("result", y::result, x::result);
        both("asked", y::asked, x::asked);
        for (int i = 0; i < 4; i++) {
            int place = perhapsFar(rarely() ? below(9) - 2 : i);
            int part = perhapsFar(rarely() ? below(5) - 2 : below(2));
            both("given", () -> y.given(place, part), () -> x.given(place, part));
        }
    }

    /** A few changes, each read; then, mostly, the changed bytes are put back, so that later ones go deep again. */
    private void changeFile() {
        for (int i = 0; i < STEP / 2 - 1; i++) {
            int k = perhapsFar(below(y.size() + 3) - 1);
            int before = y.byteAt(k);
            int b = below(3) == 0 ? random.nextInt() : below(2) == 0 ? before + below(3) - 1 : below(20);
            both("change(" + k + ", " + b + ")", () -> y.change(k, b) ? 1 : 0, () -> x.change(k, b) ? 1 : 0);
            both("read after change(" + k + ", " + b + ")", y::read, x::read);
            if (below(30) != 0) {
                y.change(k, before);
                x.change(k, before);
            }
        }
        if (below(4) == 0) {
            int n = perhapsFar(below(y.size() + 4) - 1);
            both("cut(" + n + ")", () -> y.cut(n) ? 1 : 0, () -> x.cut(n) ? 1 : 0);
            both("read after cut(" + n + ")", y::read, x::read);
            compareFiles("cut(" + n + ")");
        }
    }
}
