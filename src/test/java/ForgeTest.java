/** Promises 7 to 10: policies, which proxies are made, which slots they have. */
public final class ForgeTest {
    private static final Check CHECK = new Check();
    private static final int NONE = ProxyForge.NONE;
    private static final int[] FAR = {Integer.MIN_VALUE, -2, 20, 24, 32, Integer.MAX_VALUE};

    public static void main(String[] args) {
        policies();
        noSuchPolicy();
        policiesByName();
        noSuchType();
        oneBehindNone();
        upToThreeInterfaces();
        refusedClass();
        refusedConstructors();
        refusedNoInterfaces();
        refusedHiddenInterfaces();
        refusedReturnedKinds();
        onlySlotsClash();
        refusedSlots();
        firstRefusalCounts();
        inPlaceOfTheOneBefore();
        theOneBeforeStays();
        slotNumbers();
        classesUpToObject();
        interfacesOfClasses();
        interfacesInside();
        metOnce();
        theirInterfacesAlone();
        methodsByNumber();
        whatIsNoSlot();
        packageMethods();
        theFirstOneMetCounts();
        finalOnesAreNoSlots();
        CHECK.end();
    }

    private static int forge(Renewed x, int type, int... faces) {
        return Make.forge(x, type, faces);
    }

    private static int base(Renewed x) {
        return Make.base(x, 1, 0, 0);
    }

    private static int face(Renewed x) {
        return x.type(true, 1, 0, 0);
    }

    private static void slots(String what, Renewed x, int... due) {
        CHECK.same(what + ": slots", due.length, x.slots());
        for (int k = 0; k < due.length; k++) {
            CHECK.same(what + ": slot " + k, due[k], x.slot(k));
        }
        CHECK.same(what + ": behind them", NONE, x.slot(due.length));
        CHECK.same(what + ": before them", NONE, x.slot(-1));
    }

    private static void policies() {
        CHECK.of("Promise 7: The policy for a name 0 .. 9 becomes this");
        Renewed x = new Renewed();
        for (int name = 0; name < 10; name++) {
            for (int kind = 0; kind < 4; kind++) {
                CHECK.yes("policy(" + name + ", " + kind + ")", x.policy(name, kind));
            }
        }
        String[] codes = {"on", "fixed", "183 M:p0/T4.m7 ()V", "to"};
        for (int kind = 0; kind < 4; kind++) {
            Renewed y = new Renewed();
            int type = base(y);
            y.method(type, 7, 1, 0, 0);
            CHECK.yes("policy", y.policy(7, 3 - kind));
            CHECK.yes("policy", y.policy(7, kind));
            forge(y, type);
            String code = Listing.withMeanings(y).last();
            for (int other = 0; other < 4; other++) {
                String mark = other == 2 ? codes[2] : "px/Callback." + codes[other] + " ";
                CHECK.same("policy " + kind + ": " + mark, other == kind ? 1 : 0, code.contains(mark) ? 1 : 0);
            }
        }
    }

    private static void noSuchPolicy() {
        CHECK.of("Promise 7: false if there is none such");
        int[][] wrong = {{-1, 0}, {10, 0}, {11, 1}, {0, -1}, {0, 4}, {9, 5}, {Integer.MIN_VALUE, 0},
            {Integer.MAX_VALUE, 0}, {0, Integer.MIN_VALUE}, {0, Integer.MAX_VALUE}, {-1, -1}, {10, 4}};
        Renewed x = new Renewed();
        int type = base(x);
        for (int name = 0; name < 10; name++) {
            x.method(type, name, 1, 0, 1);
            x.policy(name, 1);
        }
        for (int[] w : wrong) {
            CHECK.no("policy(" + w[0] + ", " + w[1] + ")", x.policy(w[0], w[1]));
        }
        x.answer(1, 6);
        forge(x, type);
        for (int k = 0; k < 10; k++) {
            CHECK.same("m" + k + " is still FIXED", 0, x.call(k, 0, 0, 0, 0));
            CHECK.same("m" + k + " is still FIXED", 6, x.result());
            CHECK.same("m" + k + " is still FIXED", NONE, x.given(0, 0));
        }
    }

    private static void policiesByName() {
        CHECK.of("POLICY by name");
        Renewed x = new Renewed();
        int type = base(x);
        for (int name = 0; name < 10; name++) {
            x.method(type, name, 1, 0, 1);
            x.policy(name, name % 2 == 0 ? 2 : 1);
        }
        x.method(type, 3, 1, 1, 1);
        x.method(type, 4, 1, 1, 1);
        forge(x, type);
        int asked = NONE;
        for (int k = 0; k < 12; k++) {
            x.call(k, 0, 0, 0, 0);
            boolean asks = k < 10 ? k % 2 == 1 : k == 10;
            asked = asks ? k : asked;
            CHECK.same("asked after slot " + k, asked, x.asked());
        }
    }

    private static void noSuchType() {
        CHECK.of("Promise 8: IllegalArgumentException: there is no such type");
        Renewed x = new Renewed();
        int type = base(x);
        int face = face(x);
        int other = face(x);
        for (int far : FAR) {
            CHECK.illegal("the class " + far, () -> x.forge(far, NONE, NONE, NONE));
            CHECK.illegal("the first interface " + far, () -> x.forge(type, far, NONE, NONE));
            CHECK.illegal("the second interface " + far, () -> x.forge(type, face, far, NONE));
            CHECK.illegal("the third interface " + far, () -> x.forge(type, face, other, far));
        }
        CHECK.illegal("the next one", () -> x.forge(7, NONE, NONE, NONE));
        CHECK.illegal("the next one", () -> x.forge(type, 7, NONE, NONE));
        CHECK.illegal("NONE is no class", () -> x.forge(NONE, NONE, NONE, NONE));
        CHECK.illegal("NONE is no class", () -> x.forge(NONE, face, NONE, NONE));
        CHECK.illegal("also of a class that would be refused", () -> x.forge(face, 7, NONE, NONE));
        CHECK.illegal("also behind one that would be refused", () -> x.forge(type, type, 7, NONE));
        CHECK.same("no proxy", 0, x.size());
    }

    private static void oneBehindNone() {
        CHECK.of("Promise 8: IllegalArgumentException: or one behind NONE");
        Renewed x = new Renewed();
        int type = base(x);
        int face = face(x);
        int other = face(x);
        CHECK.illegal("second", () -> x.forge(type, NONE, face, NONE));
        CHECK.illegal("third", () -> x.forge(type, NONE, NONE, face));
        CHECK.illegal("second and third", () -> x.forge(type, NONE, face, other));
        CHECK.illegal("third behind one", () -> x.forge(type, face, NONE, other));
        CHECK.illegal("no such one", () -> x.forge(type, NONE, 99, NONE));
        CHECK.illegal("no such one", () -> x.forge(type, face, NONE, -2));
        CHECK.illegal("of a class that would be refused", () -> x.forge(face, NONE, NONE, other));
        CHECK.same("no proxy", 0, x.size());
    }

    private static void upToThreeInterfaces() {
        CHECK.of("Promise 8: A proxy is made of a class and up to three interfaces (NONE: no more)");
        Renewed x = new Renewed();
        int type = base(x);
        int a = face(x);
        int b = face(x);
        int c = face(x);
        String head = "49 p0/P p0/T4 [%s] 1 2 cb Lpx/Callback; 0";
        CHECK.same("none", 0, x.forge(type, NONE, NONE, NONE));
        CHECK.text("none", String.format(head, ""), Listing.withMeanings(x).head);
        CHECK.same("one", 0, x.forge(type, b, NONE, NONE));
        CHECK.text("one", String.format(head, "p0/T6"), Listing.withMeanings(x).head);
        CHECK.same("two", 0, x.forge(type, c, a, NONE));
        CHECK.text("two", String.format(head, "p0/T7, p0/T5"), Listing.withMeanings(x).head);
        CHECK.same("three", 0, x.forge(type, b, c, a));
        CHECK.text("three", String.format(head, "p0/T6, p0/T7, p0/T5"), Listing.withMeanings(x).head);
    }

    private static void refusedClass() {
        CHECK.of("REFUSED 1: C is no class, or is FINAL");
        Renewed x = new Renewed();
        int face = face(x);
        CHECK.same("an interface", 1, forge(x, face));
        CHECK.same("FINAL", 1, forge(x, Make.base(x, 2, 0, 0)));
        CHECK.same("PUBLIC FINAL", 1, forge(x, Make.base(x, 3, 0, 0)));
        CHECK.same("not PUBLIC", 0, forge(x, Make.base(x, 0, 0, 0)));
        CHECK.same("PUBLIC", 0, forge(x, Make.base(x, 1, 0, 0)));
        CHECK.same("ABSTRACT", 0, forge(x, Make.base(x, 4, 0, 0)));
        CHECK.same("PUBLIC ABSTRACT", 0, forge(x, Make.base(x, 5, 0, 0)));
        for (int first = 0; first < 4; first++) {
            CHECK.same("type " + first, 0, forge(x, first));
        }
    }

    private static void refusedConstructors() {
        CHECK.of("REFUSED 2: all its constructors are PRIVATE, or it has none");
        Renewed x = new Renewed();
        int parent = base(x);
        int type = x.type(false, 1, 0, parent);
        CHECK.same("none of its own", 2, forge(x, type));
        x.method(type, 0, 1, 0, 0);
        CHECK.same("a method is none", 2, forge(x, type));
        x.method(type, 10, 4, 0, 0);
        CHECK.same("PRIVATE", 2, forge(x, type));
        x.method(type, 10, 4, 1, 0);
        CHECK.same("all PRIVATE", 2, forge(x, type));
        for (int access : new int[] {0, 1, 2}) {
            Renewed y = new Renewed();
            int other = y.type(false, 1, 0, 0);
            y.method(other, 10, 4, 1, 0);
            y.method(other, 10, access, 2, 0);
            y.method(other, 10, 4, 3, 0);
            CHECK.same("one with access " + access, 0, forge(y, other));
        }
        Renewed y = new Renewed();
        int full = y.type(false, 1, 0, 0);
        for (int m = 4; m < 60; m++) {
            y.method(full, m % 10, 17, 1 + m / 10, 0);
        }
        CHECK.same("none among all the methods that there may be", 2, forge(y, full));
    }

    private static void refusedNoInterfaces() {
        CHECK.of("REFUSED 3: one of I is no interface, or there twice");
        Renewed x = new Renewed();
        int type = base(x);
        int a = face(x);
        int b = face(x);
        CHECK.same("the class itself", 3, forge(x, type, type));
        CHECK.same("OBJECT", 3, forge(x, type, 0));
        CHECK.same("a class behind one", 3, forge(x, type, a, type));
        CHECK.same("a class behind two", 3, forge(x, type, a, b, 0));
        CHECK.same("twice", 3, forge(x, type, a, a));
        CHECK.same("twice, with one between", 3, forge(x, type, a, b, a));
        CHECK.same("twice, behind one", 3, forge(x, type, b, a, a));
        CHECK.same("thrice", 3, forge(x, type, b, b, b));
        x.implement(type, a);
        x.implement(b, a);
        CHECK.same("what the class or another of I has is not there twice", 0, forge(x, type, b, a));
    }

    private static void refusedHiddenInterfaces() {
        CHECK.of("REFUSED 4: one of I isn't PUBLIC and of another package than C's");
        for (int place = 0; place < 3; place++) {
            for (int flags = 0; flags <= 1; flags++) {
                for (int pack = 0; pack < 4; pack++) {
                    Renewed x = new Renewed();
                    int type = Make.base(x, 1, 2, 0);
                    int[] faces = new int[place + 1];
                    for (int i = 0; i <= place; i++) {
                        faces[i] = x.type(true, i == place ? flags : 1, pack, 0);
                    }
                    boolean hidden = flags == 0 && pack != 2;
                    CHECK.same("at " + place + ", flags " + flags + ", package " + pack, hidden ? 4 : 0, forge(x, type, faces));
                }
            }
        }
        Renewed x = new Renewed();
        int type = base(x);
        int near = x.type(true, 0, 0, 0);
        int far = x.type(true, 0, 1, 0);
        int open = x.type(true, 1, 1, 0);
        CHECK.same("no package of px", 4, forge(x, 0, near));
        CHECK.same("PUBLIC in px", 0, forge(x, 0, open));
        x.implement(open, far);
        CHECK.same("one that is only met is not looked at", 0, forge(x, type, open));
        x.implement(type, far);
        CHECK.same("nor one of the class", 0, forge(x, type));
        CHECK.same("but one of I that the class has, too", 4, forge(x, type, far));
        CHECK.same("one before it is right", 4, forge(x, type, near, far));
    }

    /** Kinds: 8 the class T4, 9 its child T5, 10 an interface T6, 11 an interface T7 that has T6. */
    private static void refusedReturnedKinds() {
        CHECK.of("REFUSED 5: two slots, returned kinds that differ, and aren't types of which one is a subtype");
        int[] kinds = {0, 1, 2, 3, 4, 5, 6, 7, 8, 9, 10, 11};
        String[] agreeing = {
            "100000000000", "010000000000", "001000000000", "000100000000", "000011111111", "000011110000",
            "000011100000", "000011010000", "000010001100", "000010001100", "000010000011", "000010000011",
        };
        for (int a : kinds) {
            for (int b : kinds) {
                Renewed x = new Renewed();
                int type = base(x);
                x.type(false, 1, 0, type);
                int face = face(x);
                int below = face(x);
                x.implement(below, face);
                x.method(type, 1, 1, 1, a);
                x.method(face, 1, 1, 1, b);
                boolean agree = agreeing[a].charAt(b) == '1';
                CHECK.same("returned kinds " + a + ", " + b, agree ? 0 : 5, forge(x, type, face));
            }
        }
    }

    private static void onlySlotsClash() {
        CHECK.of("REFUSED 5: two slots have the same name and parameters");
        Renewed x = new Renewed();
        int type = base(x);
        int face = face(x);
        x.method(type, 3, 1, 1, 1);
        x.method(type, 4, 1, 1, 2);
        CHECK.same("other names", 0, forge(x, type));
        x.method(type, 3, 1, 2, 2);
        x.method(type, 3, 1, Make.parameters(1, 1), 3);
        CHECK.same("other parameters", 0, forge(x, type));
        x.method(type, 2, 17, 0, 2);
        x.method(face, 2, 1, 0, 1);
        CHECK.same("a FINAL method is no slot", 0, forge(x, type, face));
        x.method(type, 2, 9, 0, 3);
        x.method(type, 2, 4, 0, 4);
        CHECK.same("nor a STATIC or PRIVATE one", 0, forge(x, type, face));
        x.method(type, 3, 1, 1, 2);
        CHECK.same("two of the class itself", 5, forge(x, type));
        Renewed y = new Renewed();
        int other = base(y);
        int first = face(y);
        int second = face(y);
        y.method(other, 1, 1, 0, 4);
        y.method(first, 1, 1, 0, 4 + first);
        y.method(second, 1, 1, 0, 4 + second);
        CHECK.same("both are of the first one's returned type, not of each other", 5, forge(y, other, first, second));
        CHECK.same("one of them alone", 0, forge(y, other, second));
        y.implement(second, first);
        CHECK.same("a subtype by now", 0, forge(y, other, first, second));
        Renewed z = new Renewed();
        int clashing = base(z);
        int quiet = base(z);
        z.method(clashing, 1, 1, 0, 1);
        z.method(clashing, 1, 1, 0, 2);
        z.method(quiet, 1, 1, 0, 1);
        CHECK.same("they clash", 5, forge(z, clashing));
        CHECK.same("with those of this proxy alone", 0, forge(z, quiet));
    }

    private static void refusedSlots() {
        CHECK.of("REFUSED 6: there are more than 24 slots");
        Renewed x = new Renewed();
        int type = base(x);
        for (int m = 0; m < 24; m++) {
            x.method(type, m % 10, 1, 1 + m / 10, 0);
        }
        CHECK.same("24 slots", 0, forge(x, type));
        CHECK.same("slots", 24, x.slots());
        CHECK.same("the last", 28, x.slot(23));
        x.method(type, 9, 17, 3, 0);
        CHECK.same("a FINAL one more", 0, forge(x, type));
        int face = face(x);
        x.method(face, 0, 33, 1, 0);
        CHECK.same("one that is there already", 0, forge(x, type, face));
        x.method(face, 8, 1, 3, 0);
        CHECK.same("25 slots", 6, forge(x, type, face));
        CHECK.same("24 without the interface", 0, forge(x, type));
    }

    /** All sets of reasons: that of the lowest number is answered. */
    private static void firstRefusalCounts() {
        CHECK.of("REFUSED with the first of these");
        for (int reasons = 0; reasons < 64; reasons++) {
            for (int variant = 0; variant < 4; variant++) {
                int due = reasons == 0 ? 0 : 1 + Integer.numberOfTrailingZeros(reasons);
                CHECK.same("reasons " + Integer.toBinaryString(reasons), due, refusedBy(reasons, variant));
            }
        }
        Renewed x = new Renewed();
        int face = face(x);
        int far = x.type(true, 0, 1, 0);
        CHECK.same("an interface as C, one of I twice", 1, forge(x, face, face, face));
        CHECK.same("an interface as C, one of I hidden", 1, forge(x, face, far));
    }

    private static int refusedBy(int reasons, int variant) {
        Renewed x = new Renewed();
        int type = x.type(false, has(reasons, 1) ? 3 : 1, 0, 0);
        int hidden = x.type(true, 0, 1, 0);
        int open = face(x);
        if (!has(reasons, 2)) {
            x.method(type, 10, 1, 0, 0);
        } else if (variant % 2 == 0) {
            x.method(type, 10, 4, 0, 0);
        }
        int clashing = has(reasons, 5) ? 2 : 0;
        for (int i = 0; i < clashing; i++) {
            x.method(type, 9, 1, 0, 1 + i);
        }
        for (int m = clashing; m < (has(reasons, 6) ? 25 : 24); m++) {
            x.method(type, m % 9, 1, 1 + m / 9, 0);
        }
        int first = has(reasons, 4) ? hidden : open;
        int second = has(reasons, 3) ? variant < 2 ? first : 0 : NONE;
        return x.forge(type, first, second, NONE);
    }

    private static boolean has(int reasons, int reason) {
        return (reasons >> (reason - 1) & 1) == 1;
    }

    private static void inPlaceOfTheOneBefore() {
        CHECK.of("Promise 8: in place of the one before");
        Renewed x = new Renewed();
        int type = base(x);
        int m = x.method(type, 1, 1, 0, 1);
        forge(x, type);
        int size = x.size();
        slots("the first", x, m);
        CHECK.same("of OBJECT", 0, forge(x, 0));
        slots("of OBJECT", x);
        CHECK.same("size", 182, x.size());
        CHECK.illegal("its slots are gone", () -> x.call(0, 0, 0, 0, 0));
        CHECK.same("again", 0, forge(x, type));
        CHECK.same("size", size, x.size());
        x.change(0, 0);
        x.cut(5);
        CHECK.same("again", 0, forge(x, type));
        CHECK.same("the bytes are new ones", size, x.size());
        CHECK.same("the bytes are new ones", NONE, x.read());
        int later = x.method(type, 2, 1, 0, 1);
        slots("a method that was made later", x, m);
        forge(x, type);
        slots("is a slot of the next one", x, m, later);
    }

    /** Each refusal, with a proxy before it whose file was changed and whose slot was called. */
    private static void theOneBeforeStays() {
        CHECK.of("Promise 8: REFUSED (the one before stays)");
        for (int reason = 1; reason <= 7; reason++) {
            Renewed x = new Renewed();
            int type = base(x);
            int m = x.method(type, 1, 1, 1, 1);
            int closed = x.type(false, 2, 0, 0);
            int privat = x.type(false, 1, 0, 0);
            int clashing = Make.base(x, 1, 0, 0);
            x.method(clashing, 1, 1, 0, 1);
            x.method(clashing, 1, 1, 0, 2);
            int full = Make.base(x, 1, 0, 0);
            for (int i = 0; i < 25; i++) {
                x.method(full, i % 10, 1, 1 + i / 10, 0);
            }
            int far = x.type(true, 0, 1, 0);
            forge(x, type);
            int size = x.size();
            x.answer(1, 55);
            CHECK.same("call", 0, x.call(0, 7, 0, 0, 0));
            x.change(20, 1);
            x.cut(size - 1);
            x.policy(1, 2);
            int[][] told = {{closed}, {privat}, {type, 0}, {type, far}, {clashing}, {full}};
            if (reason < 7) {
                int[] t = told[reason - 1];
                CHECK.same("refused", reason, x.forge(t[0], t.length > 1 ? t[1] : NONE, NONE, NONE));
            } else {
                CHECK.illegal("refused", () -> x.forge(type, NONE, far, NONE));
            }
            CHECK.same("size", size - 1, x.size());
            CHECK.same("byte", 1, x.byteAt(20));
            slots("refused", x, m);
            CHECK.same("asked", 0, x.asked());
            CHECK.same("given", 7, x.given(0, 1));
            CHECK.same("result", 55, x.result());
            CHECK.same("its call, still INTERCEPTED", 0, x.call(0, 8, 0, 0, 0));
            CHECK.same("its result", 55, x.result());
            CHECK.same("its arguments", 8, x.given(0, 1));
        }
    }

    private static void slotNumbers() {
        CHECK.of("Promises 9, 10: How many slots the proxy has; the method of a slot, NONE if there is none");
        Renewed x = new Renewed();
        CHECK.same("without a proxy", 0, x.slots());
        int type = base(x);
        int first = x.method(type, 5, 1, 0, 0);
        int second = x.method(type, 4, 1, 0, 0);
        CHECK.same("before it is made", 0, x.slots());
        forge(x, type);
        slots("two", x, first, second);
        for (int far : new int[] {Integer.MIN_VALUE, -2, -1, 2, 3, 23, 24, 25, 60, Integer.MAX_VALUE}) {
            CHECK.same("slot(" + far + ")", NONE, x.slot(far));
        }
        Renewed y = new Renewed();
        int full = base(y);
        for (int i = 0; i < 24; i++) {
            y.method(full, i % 10, 1, 1 + i / 10, 0);
        }
        forge(y, full);
        for (int k = 0; k < 24; k++) {
            CHECK.same("slot(" + k + ")", 5 + k, y.slot(k));
        }
        CHECK.same("slot(24)", NONE, y.slot(24));
        forge(y, 0);
        CHECK.same("slot(0) of OBJECT", NONE, y.slot(0));
        CHECK.same("slot(23) of OBJECT", NONE, y.slot(23));
    }

    private static void classesUpToObject() {
        CHECK.of("COLLECTING: C, its parent and so on to 0; then the interfaces");
        Renewed x = new Renewed();
        int top = base(x);
        int middle = Make.base(x, 5, 1, top);
        int type = Make.base(x, 1, 2, middle);
        int face = face(x);
        int m3 = x.method(face, 3, 1, 0, 0);
        int m2 = x.method(top, 2, 1, 0, 0);
        int m1 = x.method(middle, 1, 33, 0, 0);
        int m0 = x.method(type, 0, 1, 0, 0);
        x.implement(type, face);
        forge(x, type);
        slots("of the lowest", x, m0, m1, m2, m3);
        forge(x, middle);
        slots("of the middle", x, m1, m2);
        forge(x, top);
        slots("of the top", x, m2);
        forge(x, 1);
        slots("of THROWABLE", x);
    }

    private static void interfacesOfClasses() {
        CHECK.of("COLLECTING: the interfaces of C, those of its parent (in the order in which they were given to it), then I");
        Renewed x = new Renewed();
        int parent = base(x);
        int type = Make.base(x, 1, 0, parent);
        int[] m = new int[7];
        int[] faces = new int[7];
        for (int i = 0; i < 7; i++) {
            faces[i] = face(x);
            m[i] = x.method(faces[i], i, 33, 0, 0);
        }
        x.implement(parent, faces[1]);
        x.implement(parent, faces[0]);
        x.implement(type, faces[5]);
        x.implement(type, faces[4]);
        forge(x, type, faces[6], faces[3], faces[2]);
        slots("own, the parent's, those of I", x, m[5], m[4], m[1], m[0], m[6], m[3], m[2]);
    }

    private static void interfacesInside() {
        CHECK.of("COLLECTING: each interface, then at once in the same way its own interfaces");
        Renewed x = new Renewed();
        int type = base(x);
        int[] m = new int[8];
        int[] faces = new int[8];
        for (int i = 0; i < 8; i++) {
            faces[i] = face(x);
            m[i] = x.method(faces[i], i, 33, 0, 0);
        }
        x.implement(type, faces[7]);
        x.implement(type, faces[0]);
        x.implement(faces[7], faces[3]);
        x.implement(faces[7], faces[1]);
        x.implement(faces[3], faces[6]);
        x.implement(faces[6], faces[2]);
        x.implement(faces[5], faces[4]);
        forge(x, type, faces[5]);
        slots("one inside the other", x, m[7], m[3], m[6], m[2], m[1], m[0], m[5], m[4]);
    }

    private static void metOnce() {
        CHECK.of("COLLECTING: each interface that wasn't met yet");
        Renewed x = new Renewed();
        int type = base(x);
        int[] m = new int[4];
        int[] faces = new int[4];
        for (int i = 0; i < 4; i++) {
            faces[i] = face(x);
            m[i] = x.method(faces[i], i, 33, 0, 0);
        }
        x.implement(type, faces[1]);
        x.implement(faces[1], faces[0]);
        x.implement(faces[2], faces[0]);
        x.implement(faces[2], faces[3]);
        x.implement(faces[3], faces[1]);
        forge(x, type, faces[0], faces[3], faces[2]);
        slots("where it was met first", x, m[1], m[0], m[3], m[2]);
        Renewed y = new Renewed();
        int[] many = new int[10];
        for (int i = 0; i < 10; i++) {
            many[i] = face(y);
            y.method(many[i], i, 33, 0, 0);
        }
        for (int i = 0; i < 7; i++) {
            y.implement(many[i], many[i + 1]);
            y.implement(many[i], many[i + 2]);
        }
        CHECK.same("forge", 0, forge(y, 0, many[0], many[9]));
        slots("many ways lead to the same ones", y, 4, 5, 6, 7, 8, 9, 10, 11, 12, 13);
        Renewed z = new Renewed();
        int[] chain = new int[16];
        for (int i = 0; i < 16; i++) {
            chain[i] = face(z);
            z.method(chain[i], i % 10, 33, i / 10, 0);
            if (i > 0) {
                z.implement(chain[i - 1], chain[i]);
            }
        }
        CHECK.same("forge", 0, forge(z, 0, chain[0]));
        slots("one inside the other, as deep as can be", z, 4, 5, 6, 7, 8, 9, 10, 11, 12, 13, 14, 15, 16, 17, 18, 19);
    }

    private static void theirInterfacesAlone() {
        CHECK.of("COLLECTING: its own interfaces, of a type that has four, and of the last type that there may be");
        Renewed x = new Renewed();
        int[] faces = new int[10];
        for (int i = 0; i < 10; i++) {
            faces[i] = face(x);
            x.method(faces[i], i, 33, 0, 0);
        }
        int type = base(x);
        int next = base(x);
        int inner = face(x);
        int behindInner = face(x);
        int last = face(x);
        for (int type19 = last + 1; type19 < 19; type19++) {
            face(x);
        }
        int end = base(x);
        CHECK.same("the last type", 19, end);
        for (int i = 0; i < 4; i++) {
            x.implement(type, faces[i]);
            x.implement(inner, faces[3 - i]);
            x.implement(end, faces[2 * i]);
        }
        x.implement(next, faces[9]);
        x.implement(behindInner, faces[9]);
        forge(x, type);
        slots("of the class alone", x, 4, 5, 6, 7);
        forge(x, 0, inner);
        slots("of the interface alone", x, 7, 6, 5, 4);
        forge(x, end);
        slots("of the last type", x, 4, 6, 8, 10);
    }

    private static void methodsByNumber() {
        CHECK.of("COLLECTING: Of each type the methods by number; slots are numbered as they are met");
        Renewed x = new Renewed();
        int parent = base(x);
        int type = x.type(false, 1, 0, parent);
        int a = x.method(type, 9, 1, 3, 1);
        int above = x.method(parent, 5, 1, 0, 1);
        int b = x.method(type, 0, 1, 0, 1);
        x.method(type, 10, 1, 0, 0);
        int c = x.method(type, 9, 1, 1, 1);
        forge(x, type);
        slots("by number, type by type", x, a, b, c, above);
    }

    private static void whatIsNoSlot() {
        CHECK.of("COLLECTING: those that are no constructors, STATIC or PRIVATE");
        Renewed x = new Renewed();
        int parent = base(x);
        int type = base(x);
        int child = Make.base(x, 1, 0, type);
        x.method(type, 10, 2, 1, 0);
        x.method(type, 1, 9, 0, 1);
        x.method(type, 2, 4, 0, 1);
        x.method(type, 3, 8, 0, 1);
        x.method(type, 4, 12, 0, 1);
        x.method(type, 5, 26, 0, 1);
        x.method(parent, 6, 1, 0, 1);
        int open = x.method(type, 7, 2, 0, 1);
        forge(x, type);
        slots("of the class", x, open);
        forge(x, child);
        slots("of its child", x, open);
    }

    private static void packageMethods() {
        CHECK.of("COLLECTING: nor PACKAGE of another package than C's");
        for (int pack = 0; pack < 4; pack++) {
            Renewed x = new Renewed();
            int parent = Make.base(x, 1, 1, 0);
            int type = Make.base(x, 1, pack, parent);
            int near = x.method(parent, 1, 0, 0, 1);
            int open = x.method(parent, 2, 2, 0, 1);
            int all = x.method(parent, 3, 1, 0, 1);
            int own = x.method(type, 4, 0, 0, 1);
            forge(x, type);
            if (pack == 1) {
                slots("of the same package", x, own, near, open, all);
            } else {
                slots("of another package", x, own, open, all);
            }
        }
        Renewed x = new Renewed();
        int top = Make.base(x, 1, 1, 0);
        int middle = Make.base(x, 1, 0, top);
        int type = Make.base(x, 1, 1, middle);
        int near = x.method(top, 1, 0, 0, 1);
        x.method(middle, 2, 0, 0, 1);
        forge(x, type);
        slots("another package between does not matter", x, near);
    }

    private static void theFirstOneMetCounts() {
        CHECK.of("COLLECTING: The first one met with a name, parameters and returned kind counts");
        Renewed x = new Renewed();
        int parent = Make.base(x, 5, 0, 0);
        int type = Make.base(x, 5, 0, parent);
        int face = face(x);
        x.method(face, 1, 33, 0, 1);
        x.method(parent, 1, 33, 0, 1);
        int own = x.method(type, 1, 34, 0, 1);
        int above = x.method(parent, 2, 2, 1, 1);
        x.method(face, 2, 33, 1, 1);
        int otherParameters = x.method(face, 2, 33, 2, 1);
        int otherName = x.method(face, 3, 33, 1, 1);
        forge(x, type, face);
        slots("of those alike the first", x, own, above, otherParameters, otherName);
        Renewed y = new Renewed();
        int base = base(y);
        int child = y.type(false, 1, 0, base);
        int first = face(y);
        int second = face(y);
        int object = y.method(base, 1, 1, 0, 4);
        int same = y.method(first, 1, 1, 0, 4 + base);
        y.method(second, 1, 1, 0, 4);
        int below = y.method(second, 1, 33, 0, 4 + child);
        y.method(second, 1, 33, 0, 4 + base);
        CHECK.same("another returned kind counts for itself", 0, forge(y, base, first, second));
        slots("another returned kind", y, object, same, below);
    }

    private static void finalOnesAreNoSlots() {
        CHECK.of("COLLECTING: it is a SLOT, if it isn't FINAL");
        Renewed x = new Renewed();
        int parent = Make.base(x, 1, 1, 0);
        int type = Make.base(x, 1, 0, parent);
        int face = face(x);
        x.method(type, 1, 17, 0, 1);
        x.method(parent, 1, 1, 0, 1);
        x.method(face, 1, 33, 0, 1);
        x.method(parent, 2, 18, 0, 1);
        x.method(face, 2, 33, 0, 1);
        x.method(parent, 3, 16, 0, 1);
        int behindHidden = x.method(face, 3, 33, 0, 1);
        x.method(parent, 4, 25, 0, 1);
        int behindStatic = x.method(face, 4, 33, 0, 1);
        x.method(parent, 5, 20, 0, 1);
        int behindPrivate = x.method(face, 5, 33, 0, 1);
        x.method(parent, 6, 17, 0, 1);
        int overriding = x.method(type, 6, 1, 0, 1);
        forge(x, type, face);
        slots("a FINAL one that was met hides the others", x, overriding, behindHidden, behindStatic, behindPrivate);
    }
}
