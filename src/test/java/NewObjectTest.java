/** Promise 1: what every call answers on an object that has just been made. */
public final class NewObjectTest {
    private static final Check CHECK = new Check();
    private static final int NONE = ProxyForge.NONE;
    private static final int[] FAR = {Integer.MIN_VALUE, -2, -1, 4, 5, 20, 24, 60, 512, Integer.MAX_VALUE};
    private static final String[] NAMES =
            {"java/lang/Object", "java/lang/Throwable", "java/lang/Error", "java/lang/RuntimeException"};

    public static void main(String[] args) {
        none();
        fourTypes();
        fourTypesTakeNothing();
        theirConstructors();
        noPackage();
        noProxy();
        noFile();
        nothingCalled();
        allIntercepted();
        callbackAnswersNull();
        whatTheCallbackMayAnswer();
        twoObjects();
        CHECK.end();
    }

    private static ProxyForge fresh() {
        return new ProxyForge();
    }

    private static void none() {
        CHECK.of("NONE = -1");
        CHECK.same("NONE", -1, ProxyForge.NONE);
    }

    private static void fourTypes() {
        CHECK.of("Four types: 0 OBJECT, 1 THROWABLE (its parent 0), 2 ERROR (1), 3 RUNTIME EXCEPTION (1, too)");
        String[] supers = {"1000", "1100", "1110", "1101"};
        for (int type = 0; type < 4; type++) {
            for (int of = 0; of < 4; of++) {
                boolean due = supers[type].charAt(of) == '1';
                CHECK.same("isSubtype(" + type + ", " + of + ")", due ? 1 : 0, fresh().isSubtype(type, of) ? 1 : 0);
            }
            for (int far : FAR) {
                int t = type;
                CHECK.no("isSubtype(" + type + ", " + far + ")", fresh().isSubtype(t, far));
                CHECK.no("isSubtype(" + far + ", " + type + ")", fresh().isSubtype(far, t));
            }
        }
        for (int parent = 0; parent < 4; parent++) {
            CHECK.same("type of " + parent, 4, fresh().type(false, 0, 3, parent));
        }
        CHECK.same("an interface", 4, fresh().type(true, 0, 0, 0));
        for (int far : FAR) {
            CHECK.illegal("type of " + far, () -> fresh().type(false, 1, 0, far));
        }
    }

    private static void fourTypesTakeNothing() {
        CHECK.of("A type (not 0 .. 3); a method (not 0 .. 3)");
        for (int type = -1; type <= 4; type++) {
            int t = type;
            CHECK.illegal("method of " + type, () -> fresh().method(t, 0, 1, 0, 0));
            CHECK.illegal("constructor of " + type, () -> fresh().method(t, 10, 1, 1, 0));
            for (int other = -1; other <= 4; other++) {
                int o = other;
                CHECK.illegal("implement(" + type + ", " + other + ")", () -> fresh().implement(t, o));
                CHECK.illegal("throwing(" + type + ", " + other + ")", () -> fresh().throwing(t, o));
            }
        }
    }

    private static void theirConstructors() {
        CHECK.of("each with a PUBLIC constructor without parameters (method 0 .. 3), otherwise without methods");
        for (int type = 0; type < 4; type++) {
            Renewed x = new Renewed();
            CHECK.same("forge(" + type + ")", 0, Make.forge(x, type));
            CHECK.same("slots", 0, x.slots());
            CHECK.same("slot 0", NONE, x.slot(0));
            Listing l = Listing.withMeanings(x);
            CHECK.same("methods in the file", 1, l.methods.size());
            CHECK.text("constructor", "1 <init> (Lpx/Callback;)V 1: Code 22 2 2 10: 42 43 181 F:px/P.cb Lpx/Callback; 42 "
                    + "183 M:" + NAMES[type] + ".<init> ()V 177 [] 0", l.last());
        }
        ProxyForge x = fresh();
        int type = x.type(false, 1, 0, 0);
        CHECK.same("the first method that is made", 4, x.method(type, 10, 1, 0, 0));
    }

    private static void noPackage() {
        CHECK.of("PUBLIC classes named java/lang/Object, ..., in no PACKAGE (4); of 4: in px");
        for (int type = 0; type < 4; type++) {
            Renewed x = new Renewed();
            Make.forge(x, type);
            CHECK.text("class", "49 px/P " + NAMES[type] + " [] 1 2 cb Lpx/Callback; 0", Listing.withMeanings(x).head);
            for (int pack = 0; pack < 4; pack++) {
                x = new Renewed();
                CHECK.same("an interface of package " + pack, 4, x.type(true, 0, pack, 0));
                CHECK.same("is of another package", 4, Make.forge(x, type, 4));
            }
        }
        for (int far : FAR) {
            CHECK.illegal("forge(" + far + ")", () -> fresh().forge(far, NONE, NONE, NONE));
            if (far != NONE) {
                CHECK.illegal("forge(0, " + far + ")", () -> fresh().forge(0, far, NONE, NONE));
            }
        }
        for (int type = 0; type < 4; type++) {
            CHECK.same("a class is no interface", 3, fresh().forge(0, type, NONE, NONE));
        }
    }

    private static void noProxy() {
        CHECK.of("no proxy; slots: 0 without one; slot: NONE if there is none; call: there is no such slot");
        CHECK.same("slots", 0, fresh().slots());
        for (int k = 0; k < 4; k++) {
            int slot = k;
            CHECK.same("slot(" + k + ")", NONE, fresh().slot(k));
            CHECK.illegal("call(" + k + ")", () -> fresh().call(slot, 0, 0, 0, 0));
        }
        for (int far : FAR) {
            CHECK.same("slot(" + far + ")", NONE, fresh().slot(far));
            CHECK.illegal("call(" + far + ")", () -> fresh().call(far, 0, 0, 0, 0));
        }
    }

    private static void noFile() {
        CHECK.of("size: 0 without a proxy; byteAt: NONE if there is none; change, cut: false; read: of no bytes 0");
        CHECK.same("size", 0, fresh().size());
        CHECK.same("read", 0, fresh().read());
        CHECK.yes("cut(0)", fresh().cut(0));
        for (int k = 0; k < 4; k++) {
            CHECK.same("byteAt(" + k + ")", NONE, fresh().byteAt(k));
            CHECK.no("change(" + k + ")", fresh().change(k, 202));
            CHECK.no("cut(" + (k + 1) + ")", fresh().cut(k + 1));
        }
        for (int far : FAR) {
            CHECK.same("byteAt(" + far + ")", NONE, fresh().byteAt(far));
            CHECK.no("change(" + far + ")", fresh().change(far, 202));
            CHECK.no("cut(" + far + ")", fresh().cut(far));
        }
        ProxyForge x = fresh();
        x.change(0, 202);
        x.cut(0);
        CHECK.same("size after these", 0, x.size());
        CHECK.same("read after these", 0, x.read());
    }

    private static void nothingCalled() {
        CHECK.of("result: 0 before any; asked: NONE if it never was; given: NONE if there is none");
        CHECK.same("result", 0, fresh().result());
        CHECK.same("asked", NONE, fresh().asked());
        for (int what = -1; what <= 2; what++) {
            for (int i = -1; i <= 4; i++) {
                CHECK.same("given(" + i + ", " + what + ")", NONE, fresh().given(i, what));
            }
        }
    }

    private static void allIntercepted() {
        CHECK.of("the policy is INTERCEPTED");
        for (int name = 0; name < 10; name++) {
            ProxyForge x = fresh();
            int type = x.type(false, 1, 0, 0);
            x.method(type, 10, 1, 0, 0);
            x.method(type, name, 1, 2, 4);
            x.forge(type, NONE, NONE, NONE);
            int size = x.size();
            x.call(0, 70 + name, 0, 0, 0);
            CHECK.same("m" + name + " asks the callback", 0, x.asked());
            CHECK.same("m" + name + " gives its argument", 70 + name, x.given(0, 1));
            CHECK.yes("policy(" + name + ", 0)", x.policy(name, 0));
            x.forge(type, NONE, NONE, NONE);
            CHECK.same("the same file as with INTERCEPTED", size, x.size());
        }
    }

    private static void callbackAnswersNull() {
        CHECK.of("the callback answers null");
        for (int returned = 0; returned <= 4; returned++) {
            ProxyForge x = fresh();
            int type = x.type(false, 1, 0, 0);
            x.method(type, 10, 1, 0, 0);
            x.method(type, 1, 1, 0, returned);
            x.forge(type, NONE, NONE, NONE);
            boolean number = returned >= 1 && returned <= 3;
            CHECK.same("call, returning " + returned, number ? 2 : 0, x.call(0, 0, 0, 0, 0));
            CHECK.same("result, returning " + returned, returned == 4 ? NONE : 0, x.result());
        }
    }

    private static void whatTheCallbackMayAnswer() {
        CHECK.of("answer: there is no such kind, type, or it can't be thrown");
        for (int kind = 0; kind <= 3; kind++) {
            fresh().answer(kind, Long.MIN_VALUE);
            fresh().answer(kind, Long.MAX_VALUE);
        }
        for (int type = 0; type < 4; type++) {
            fresh().answer(4, type);
        }
        for (int type = 1; type < 4; type++) {
            fresh().answer(5, type);
        }
        CHECK.illegal("an OBJECT can't be thrown", () -> fresh().answer(5, 0));
        for (int far : FAR) {
            CHECK.illegal("answer(4, " + far + ")", () -> fresh().answer(4, far));
            CHECK.illegal("answer(5, " + far + ")", () -> fresh().answer(5, far));
            if (far != 4 && far != 5) {
                CHECK.illegal("answer(" + far + ", 1)", () -> fresh().answer(far, 1));
            }
        }
    }

    private static void twoObjects() {
        CHECK.of("what one object was told is not known to another one");
        ProxyForge x = fresh();
        ProxyForge y = fresh();
        int type = x.type(false, 1, 0, 0);
        x.method(type, 10, 1, 0, 0);
        x.method(type, 1, 1, 1, 1);
        x.policy(1, 1);
        x.answer(1, 5);
        x.forge(type, NONE, NONE, NONE);
        x.call(0, 0, 0, 0, 0);
        CHECK.same("types", 4, y.type(false, 1, 0, 0));
        CHECK.same("methods", 4, y.method(4, 10, 1, 0, 0));
        CHECK.same("slots", 0, y.slots());
        CHECK.same("size", 0, y.size());
        CHECK.same("result", 0, y.result());
        CHECK.same("asked", NONE, y.asked());
        y.method(4, 1, 1, 1, 1);
        y.forge(4, NONE, NONE, NONE);
        CHECK.same("the callback still answers null", 2, y.call(0, 3, 0, 0, 0));
        CHECK.same("the policy is still INTERCEPTED", 3, y.given(0, 1));
    }
}
