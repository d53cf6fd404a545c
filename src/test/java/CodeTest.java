import java.util.List;

/** Promise 8: the methods of the file, sentence by sentence, with what the numbers in them mean. */
public final class CodeTest {
    private static final Check CHECK = new Check();
    private static final int INTERCEPTED = 0;
    private static final int FIXED = 1;
    private static final int SUPER = 2;
    private static final int DISPATCHED = 3;
    private static final int PUBLIC = 1;
    private static final String CB = "180 F:p0/P.cb Lpx/Callback; ";
    private static final String ON =
            "185 I:px/Callback.on (Ljava/lang/Object;I[Ljava/lang/Object;)Ljava/lang/Object; 4 0 ";
    private static final String WRAPPER = "java/lang/reflect/UndeclaredThrowableException";
    private static final String ARRAY = "189 java/lang/Object ";
    private static final String BOX_INT = "184 M:java/lang/Integer.valueOf (I)Ljava/lang/Integer; ";
    private static final String BOX_LONG = "184 M:java/lang/Long.valueOf (J)Ljava/lang/Long; ";
    private static final String BOX_BOOLEAN = "184 M:java/lang/Boolean.valueOf (Z)Ljava/lang/Boolean; ";
    // By returned kinds: 4 OBJECT, 5 THROWABLE, 8 the class T4, 9 the interface T5.
    private static final int[] RETURNED = {0, 1, 2, 3, 4, 5, 8, 9};
    private static final String[] LETTERS =
            {"V", "I", "J", "Z", "Ljava/lang/Object;", "Ljava/lang/Throwable;", "Lp0/T4;", "Lp1/T5;"};
    private static final String[] UNBOXED = {
        "87 177", "192 java/lang/Integer 182 M:java/lang/Integer.intValue ()I 172",
        "192 java/lang/Long 182 M:java/lang/Long.longValue ()J 173",
        "192 java/lang/Boolean 182 M:java/lang/Boolean.booleanValue ()Z 172", "176",
        "192 java/lang/Throwable 176", "192 p0/T4 176", "192 p1/T5 176",
    };
    private static final int[] UNBOXED_BYTES = {2, 7, 7, 7, 1, 4, 4, 4};
    private static final String[] RETURN = {"177", "172", "173", "172", "176", "176", "176", "176"};

    public static void main(String[] args) {
        access();
        attributes();
        whichConstructors();
        constructorCode();
        constructorDepth();
        constructorsThrowNothing();
        interceptedUnboxed();
        interceptedBoxed();
        interceptedLocals();
        handlers();
        noHandlersForThrowable();
        greatestHandlerPlace();
        fixedUnboxed();
        dispatchedToClass();
        dispatchedToInterface();
        superOfClass();
        superOfInterface();
        superByTheFirstOfAll();
        pushes();
        howManyParameters();
        depths();
        howManyMethods();
        CHECK.end();
    }

    /** A PUBLIC ABSTRACT class T4 with a constructor, an interface T5 of package 1. */
    private static Renewed some() {
        Renewed x = new Renewed();
        Make.base(x, 5, 0, 0);
        x.type(true, 1, 1, 0);
        return x;
    }

    /** A method m1 of T4 as slot 0 of a proxy: how it stands in the file. */
    private static String slot(int policy, int flags, int parameters, int returned, int... thrown) {
        Renewed x = some();
        int m = x.method(4, 1, flags, parameters, returned);
        for (int type : thrown) {
            x.throwing(m, type);
        }
        x.policy(1, policy);
        CHECK.same("forge", 0, Make.forge(x, 4));
        CHECK.same("read", ProxyForge.NONE, x.read());
        return Listing.withMeanings(x).last();
    }

    private static String code(String slot) {
        int from = slot.indexOf(": ", slot.indexOf(": ") + 2) + 2;
        return slot.substring(from, slot.indexOf(" ["));
    }

    /** The numbers behind a method's name and descriptor: attributes, Code, its bytes, depth, locals, code's bytes. */
    private static String numbers(String slot) {
        String[] words = slot.split(" ");
        return words[3] + " " + words[5] + " " + words[6] + " " + words[7] + " " + words[8];
    }

    private static void access() {
        CHECK.of("A METHOD: access (2: PUBLIC 1, PROTECTED 4, PACKAGE 0, and for slots 16 more)");
        int[] flags = {1, 2, 0, 33, 34, 32};
        int[] due = {17, 20, 16, 17, 20, 16};
        for (int policy = 0; policy < 4; policy++) {
            for (int i = 0; i < flags.length; i++) {
                CHECK.yes("flags " + flags[i], slot(policy, flags[i], 0, 0).startsWith(due[i] + " m1 ()V "));
            }
        }
        int[] ofConstructors = {1, 4, 0};
        for (int i = 0; i < 3; i++) {
            Renewed x = new Renewed();
            int type = x.type(false, 1, 0, 0);
            x.method(type, 10, flags[i], 0, 0);
            Make.forge(x, type);
            CHECK.yes("constructor " + flags[i], Listing.withMeanings(x).last().startsWith(ofConstructors[i] + " <init> "));
        }
    }

    private static void attributes() {
        CHECK.of("how many ATTRIBUTES (2): 1, or 2 for a slot that THROWS something; EXCEPTIONS: how many, CLASSES");
        for (int policy = 0; policy < 4; policy++) {
            String none = slot(policy, PUBLIC, 0, 0);
            CHECK.yes("one attribute: " + none, none.startsWith("17 m1 ()V 1: Code "));
            CHECK.no("no Exceptions", none.contains("Exceptions"));
            String one = slot(policy, PUBLIC, 0, 0, 3);
            CHECK.yes("two attributes", one.startsWith("17 m1 ()V 2: Code "));
            CHECK.yes("one", one.endsWith(" Exceptions 4 [java/lang/RuntimeException]"));
            String three = slot(policy, PUBLIC, 0, 0, 3, 1, 2);
            CHECK.yes("two attributes", three.startsWith("17 m1 ()V 2: Code "));
            CHECK.yes("three", three.endsWith(
                    " Exceptions 8 [java/lang/RuntimeException, java/lang/Throwable, java/lang/Error]"));
        }
    }

    private static void whichConstructors() {
        CHECK.of("First CONSTRUCTORS: for each one of C that isn't PRIVATE, by number");
        Renewed x = new Renewed();
        int parent = x.type(false, 1, 0, 0);
        int type = x.type(false, 1, 0, parent);
        x.method(parent, 10, 1, 3, 0);
        x.method(type, 10, 4, 0, 0);
        x.method(type, 10, 0, 2, 0);
        x.method(type, 1, 1, 0, 0);
        x.method(type, 10, 1, 1, 0);
        Make.forge(x, type);
        List<String> methods = Listing.withMeanings(x).methods;
        CHECK.same("methods", 3, methods.size());
        CHECK.yes("the first", methods.get(0).startsWith("0 <init> (Lpx/Callback;J)V 1: "));
        CHECK.yes("the second", methods.get(1).startsWith("1 <init> (Lpx/Callback;I)V 1: "));
        CHECK.yes("then the slot", methods.get(2).startsWith("17 m1 ()V 1: "));
    }

    /** How a constructor of T4 with such parameters stands in the file. */
    private static String constructor(int... kinds) {
        Renewed x = new Renewed();
        int type = x.type(false, 1, 0, 0);
        x.type(true, 1, 1, 0);
        x.method(type, 10, 1, Make.parameters(kinds), 0);
        CHECK.same("forge", 0, Make.forge(x, type));
        return Listing.withMeanings(x).last();
    }

    private static void constructorCode() {
        CHECK.of("code: 42, 43, 181 FIELD (of the proxy, cb); 42, the parameters LOADED from local 2 on, 183 METHOD (of C); 177");
        String start = "42 43 181 F:p0/P.cb Lpx/Callback; 42 ";
        String called = "183 M:p0/T4.<init> ";
        CHECK.text("none", start + called + "()V 177", code(constructor()));
        CHECK.text("int", start + "21 2 " + called + "(I)V 177", code(constructor(1)));
        CHECK.text("long", start + "22 2 " + called + "(J)V 177", code(constructor(2)));
        CHECK.text("boolean", start + "21 2 " + called + "(Z)V 177", code(constructor(3)));
        CHECK.text("a type", start + "25 2 " + called + "(Lp1/T5;)V 177", code(constructor(9)));
        CHECK.text("four", start + "22 2 21 4 25 5 22 6 " + called + "(JZLjava/lang/Object;J)V 177",
                code(constructor(2, 3, 4, 2)));
        CHECK.yes("no handlers", constructor(1, 1).endsWith(" 177 [] 0"));
    }

    private static void constructorDepth() {
        CHECK.of("Depth: 2, or 1 and the parameters' slots, if that is more; locals 2 and their slots");
        CHECK.text("0 slots", "1: 22 2 2 10:", numbers(constructor()));
        CHECK.text("1 slot", "1: 24 2 3 12:", numbers(constructor(1)));
        CHECK.text("a long", "1: 24 3 4 12:", numbers(constructor(2)));
        CHECK.text("2 slots", "1: 26 3 4 14:", numbers(constructor(3, 4)));
        CHECK.text("4 slots", "1: 30 5 6 18:", numbers(constructor(1, 1, 4, 9)));
        CHECK.text("8 slots", "1: 30 9 10 18:", numbers(constructor(2, 2, 2, 2)));
    }

    private static void constructorsThrowNothing() {
        CHECK.of("It THROWS nothing");
        Renewed x = new Renewed();
        int type = x.type(false, 1, 0, 0);
        int m = x.method(type, 10, 1, 0, 0);
        x.throwing(m, 1);
        x.throwing(m, 3);
        Make.forge(x, type);
        Listing l = Listing.withMeanings(x);
        CHECK.text("numbers", "1: 22 2 2 10:", numbers(l.last()));
        CHECK.no("no Exceptions", l.pool.contains("Exceptions"));
    }

    private static String rethrow(int local) {
        return " 191 58 " + local + " 187 " + WRAPPER + " 89 25 " + local + " 183 M:" + WRAPPER
                + ".<init> (Ljava/lang/Throwable;)V 191";
    }

    /** What stands behind the code of a slot with handlers. */
    private static String guarded(int h, String... thrown) {
        StringBuilder s = new StringBuilder(" [");
        for (String name : List.of("java/lang/Error", "java/lang/RuntimeException")) {
            s.append("0 " + h + " " + h + " " + name + ", ");
        }
        for (String name : thrown) {
            s.append("0 " + h + " " + h + " " + name + ", ");
        }
        return s + "0 " + h + " " + (h + 1) + " java/lang/Throwable] 1 StackMapTable 10 2 " + (64 + h)
                + " 7 java/lang/Throwable 64 7 java/lang/Throwable";
    }

    private static void interceptedUnboxed() {
        CHECK.of("INTERCEPTED: 42, 180 FIELD cb, 42, PUSH k; without parameters 1; then 185 on, 4, 0; UNBOXED; 191; g");
        for (int i = 0; i < RETURNED.length; i++) {
            int h = 12 + UNBOXED_BYTES[i];
            int bytes = h + 13;
            String due = "17 m1 ()" + LETTERS[i] + " 1: Code " + (12 + bytes + 3 * 8 + 6 + 10) + " 4 2 " + bytes + ": 42 "
                    + CB + "42 3 1 " + ON + UNBOXED[i] + rethrow(1) + guarded(h);
            CHECK.text("returning " + RETURNED[i], due, slot(INTERCEPTED, PUBLIC, 0, RETURNED[i]));
        }
    }

    private static void interceptedBoxed() {
        CHECK.of("else PUSH how many, 189 CLASS java/lang/Object, and for each: 89, PUSH its number, LOADED, BOXED, 83");
        String start = "42 " + CB + "42 3 ";
        String end = ON + "87 177";
        String[] boxed = {"21 1 " + BOX_INT, "22 1 " + BOX_LONG, "21 1 " + BOX_BOOLEAN, "25 1 ", "25 1 ", "25 1 "};
        int[] kinds = {1, 2, 3, 4, 8, 9};
        for (int i = 0; i < kinds.length; i++) {
            int local = kinds[i] == 2 ? 3 : 2;
            CHECK.text("kind " + kinds[i], start + "4 " + ARRAY + "89 3 " + boxed[i] + "83 " + end + rethrow(local),
                    code(slot(INTERCEPTED, PUBLIC, kinds[i], 0)));
        }
        CHECK.text("four", start + "7 " + ARRAY + "89 3 22 1 " + BOX_LONG + "83 89 4 21 3 " + BOX_BOOLEAN
                + "83 89 5 25 4 83 89 6 21 5 " + BOX_INT + "83 " + end + rethrow(6),
                code(slot(INTERCEPTED, PUBLIC, Make.parameters(2, 3, 9, 1), 0)));
    }

    private static void interceptedLocals() {
        CHECK.of("58 and the first local behind all; Locals: 1 and the parameters' slots, one more if there are handlers");
        int[][] kinds = {{}, {1}, {2}, {1, 2}, {2, 2}, {4, 3, 1}, {2, 2, 2, 2}};
        int[] slots = {0, 1, 2, 3, 4, 3, 8};
        for (int i = 0; i < kinds.length; i++) {
            int parameters = Make.parameters(kinds[i]);
            String guarded = slot(INTERCEPTED, PUBLIC, parameters, 0);
            CHECK.text("locals", String.valueOf(slots[i] + 2), numbers(guarded).split(" ")[3]);
            CHECK.yes("its local", guarded.contains(rethrow(1 + slots[i])));
            for (int policy : new int[] {FIXED, SUPER, DISPATCHED}) {
                String plain = slot(policy, PUBLIC, parameters, 0);
                CHECK.text("locals", String.valueOf(slots[i] + 1), numbers(plain).split(" ")[3]);
                CHECK.yes("no handlers", plain.endsWith(" [] 0"));
            }
            String throwing = slot(INTERCEPTED, PUBLIC, parameters, 0, 1);
            CHECK.text("locals", String.valueOf(slots[i] + 1), numbers(throwing).split(" ")[3]);
        }
    }

    private static void handlers() {
        CHECK.of("Handlers from 0 to h: of ERROR, RUNTIME EXCEPTION, and each that it THROWS, at h; of THROWABLE at g");
        CHECK.yes("none thrown", slot(INTERCEPTED, PUBLIC, 0, 0).endsWith(guarded(14)));
        CHECK.yes("an error again", slot(INTERCEPTED, PUBLIC, 0, 0, 2)
                .endsWith(guarded(14, "java/lang/Error") + " Exceptions 4 [java/lang/Error]"));
        Renewed x = some();
        int a = x.type(false, 1, 2, 1);
        int b = x.type(false, 1, 3, 3);
        int m = x.method(4, 1, 1, 0, 0);
        x.throwing(m, b);
        x.throwing(m, a);
        x.throwing(m, 3);
        Make.forge(x, 4);
        String slot = Listing.withMeanings(x).last();
        CHECK.yes("three", slot.endsWith(guarded(14, "p3/T7", "p2/T6", "java/lang/RuntimeException")
                + " Exceptions 8 [p3/T7, p2/T6, java/lang/RuntimeException]"));
        CHECK.text("numbers", "2: 103 4 2 27:", numbers(slot));
        int next = x.method(4, 2, 1, 0, 0);
        x.throwing(next, 1);
        Make.forge(x, 4);
        List<String> methods = Listing.withMeanings(x).methods;
        CHECK.yes("still those of its own alone", methods.get(1).equals(slot));
        CHECK.yes("the next one throws THROWABLE", methods.get(2).contains(" 177 [] 0 Exceptions 4 [java/lang/Throwable]"));
        for (int policy : new int[] {FIXED, SUPER, DISPATCHED}) {
            CHECK.yes("none for policy " + policy, slot(policy, PUBLIC, 0, 0, 3).contains(" 177 [] 0 Exceptions "));
        }
    }

    private static void noHandlersForThrowable() {
        CHECK.of("(If it THROWS THROWABLE there are no handlers.)");
        String plain = "42 " + CB + "42 3 1 " + ON + "87 177";
        CHECK.text("alone", "17 m1 ()V 2: Code 26 4 1 14: " + plain + " [] 0 Exceptions 4 [java/lang/Throwable]",
                slot(INTERCEPTED, PUBLIC, 0, 0, 1));
        CHECK.text("behind others", "17 m1 ()V 2: Code 26 4 1 14: " + plain
                + " [] 0 Exceptions 8 [java/lang/Error, java/lang/RuntimeException, java/lang/Throwable]",
                slot(INTERCEPTED, PUBLIC, 0, 0, 2, 3, 1));
        Renewed x = some();
        int m = x.method(4, 1, 1, 0, 0);
        Make.forge(x, 4);
        x.throwing(m, 1);
        CHECK.yes("said behind the forging: handlers stay", Listing.withMeanings(x).last().endsWith(guarded(14)));
        Make.forge(x, 4);
        CHECK.yes("forged again", Listing.withMeanings(x).last().contains(" 177 [] 0 Exceptions 4 "));
    }

    private static void greatestHandlerPlace() {
        CHECK.of("STACKMAPTABLE: 2 (2), then 64 + h, 7, CLASS java/lang/Throwable (2); 64, 7, that CLASS again");
        Renewed x = some();
        for (int k = 0; k < 7; k++) {
            x.method(4, k, 1, Make.parameters(1, 2, 3, 1), 2);
        }
        Make.forge(x, 4);
        List<String> methods = Listing.withMeanings(x).methods;
        CHECK.yes("slot 5", methods.get(6).endsWith(guarded(54)));
        CHECK.yes("slot 6, the greatest h that there is", methods.get(7).endsWith(guarded(55)));
    }

    private static void fixedUnboxed() {
        CHECK.of("FIXED: 42, 180 FIELD cb, PUSH k, 185 INTERFACE METHOD (px/Callback, fixed, ...), 2, 0; UNBOXED");
        for (int i = 0; i < RETURNED.length; i++) {
            int bytes = 10 + UNBOXED_BYTES[i];
            CHECK.text("returning " + RETURNED[i], "17 m1 (J)" + LETTERS[i] + " 1: Code " + (12 + bytes) + " 2 3 " + bytes
                    + ": 42 " + CB + "3 185 I:px/Callback.fixed (I)Ljava/lang/Object; 2 0 " + UNBOXED[i] + " [] 0",
                    slot(FIXED, PUBLIC, 2, RETURNED[i]));
        }
    }

    private static void dispatchedToClass() {
        CHECK.of("DISPATCHED: 42, 180, PUSH k, 185 (to), 2, 0; CAST to the slot's type; LOADED; of a class 182 METHOD of it; RETURN");
        for (int i = 0; i < RETURNED.length; i++) {
            CHECK.text("returning " + RETURNED[i], "17 m1 ()" + LETTERS[i] + " 1: Code 29 2 1 17: 42 " + CB
                    + "3 185 I:px/Callback.to (I)Ljava/lang/Object; 2 0 192 p0/T4 182 M:p0/T4.m1 ()" + LETTERS[i] + " "
                    + RETURN[i] + " [] 0", slot(DISPATCHED, PUBLIC, 0, RETURNED[i]));
        }
        CHECK.text("parameters", "42 " + CB + "3 185 I:px/Callback.to (I)Ljava/lang/Object; 2 0 192 p0/T4 21 1 22 2 25 4 "
                + "21 5 182 M:p0/T4.m1 (IJLp1/T5;Z)V 177", code(slot(DISPATCHED, PUBLIC, Make.parameters(1, 2, 9, 3), 0)));
        Renewed x = some();
        int child = Make.base(x, 1, 0, 4);
        x.method(4, 1, 33, 0, 0);
        x.policy(1, DISPATCHED);
        Make.forge(x, child);
        CHECK.text("of a parent: the slot's type, not C", "42 " + CB + "3 185 I:px/Callback.to (I)Ljava/lang/Object; 2 0 "
                + "192 p0/T4 182 M:p0/T4.m1 ()V 177", code(Listing.withMeanings(x).last()));
    }

    private static void dispatchedToInterface() {
        CHECK.of("of an interface 185 INTERFACE METHOD, how many slots the parameters have and 1, 0; RETURN");
        int[][] kinds = {{}, {1}, {2}, {3, 2}, {2, 2, 2, 2}};
        String[] loaded = {"", "21 1 ", "22 1 ", "21 1 22 2 ", "22 1 22 3 22 5 22 7 "};
        String[] letters = {"", "I", "J", "ZJ", "JJJJ"};
        int[] slots = {0, 1, 2, 3, 8};
        for (int i = 0; i < kinds.length; i++) {
            for (boolean ofClass : new boolean[] {false, true}) {
                Renewed x = some();
                x.method(5, 1, 33, Make.parameters(kinds[i]), 3);
                x.policy(1, DISPATCHED);
                if (ofClass) {
                    x.implement(4, 5);
                    Make.forge(x, 4);
                } else {
                    Make.forge(x, 4, 5);
                }
                CHECK.text("parameters " + letters[i], "42 " + CB + "3 185 I:px/Callback.to (I)Ljava/lang/Object; 2 0 "
                        + "192 p1/T5 " + loaded[i] + "185 I:p1/T5.m1 (" + letters[i] + ")Z " + (slots[i] + 1) + " 0 172",
                        code(Listing.withMeanings(x).last()));
            }
        }
    }

    private static void superOfClass() {
        CHECK.of("SUPER: 42, LOADED, 183 METHOD of C; RETURN");
        for (int i = 0; i < RETURNED.length; i++) {
            int depth = RETURNED[i] == 2 ? 2 : 1;
            CHECK.text("returning " + RETURNED[i], "17 m1 ()" + LETTERS[i] + " 1: Code 17 " + depth + " 1 5: 42 183 M:p0/T4.m1 ()"
                    + LETTERS[i] + " " + RETURN[i] + " [] 0", slot(SUPER, PUBLIC, 0, RETURNED[i]));
        }
        CHECK.text("parameters", "42 22 1 25 3 21 4 21 5 183 M:p0/T4.m1 (JLjava/lang/Object;ZI)V 177",
                code(slot(SUPER, PUBLIC, Make.parameters(2, 4, 3, 1), 0)));
        Renewed x = some();
        int child = Make.base(x, 1, 0, 4);
        x.method(4, 1, 33, 0, 0);
        x.policy(1, SUPER);
        Make.forge(x, child);
        CHECK.text("of a parent: C, not the slot's type", "42 183 M:p0/T6.m1 ()V 177", code(Listing.withMeanings(x).last()));
    }

    private static void superOfInterface() {
        CHECK.of("SUPER: or, if the slot is of an interface met by I, INTERFACE METHOD of ...");
        Renewed x = some();
        x.method(5, 1, 1, 2, 1);
        x.policy(1, SUPER);
        Make.forge(x, 4, 5);
        CHECK.text("met by I", "42 22 1 183 I:p1/T5.m1 (J)I 172", code(Listing.withMeanings(x).last()));
        x.implement(4, 5);
        Make.forge(x, 4);
        CHECK.text("met by C", "42 22 1 183 M:p0/T4.m1 (J)I 172", code(Listing.withMeanings(x).last()));
        Make.forge(x, 4, 5);
        CHECK.text("met by C before I", "42 22 1 183 M:p0/T4.m1 (J)I 172", code(Listing.withMeanings(x).last()));
        int child = Make.base(x, 1, 0, 4);
        Make.forge(x, child, 5);
        CHECK.text("met by C's parent", "42 22 1 183 M:p0/T6.m1 (J)I 172", code(Listing.withMeanings(x).last()));
        Renewed y = some();
        int inside = y.type(true, 1, 0, 0);
        y.method(inside, 1, 1, 2, 1);
        y.policy(1, SUPER);
        y.implement(4, 5);
        y.implement(5, inside);
        Make.forge(y, 4, inside);
        CHECK.text("met inside an interface of C", "42 22 1 183 M:p0/T4.m1 (J)I 172", code(Listing.withMeanings(y).last()));
    }

    private static void superByTheFirstOfAll() {
        CHECK.of("SUPER: INTERFACE METHOD of the first one in I that is a subtype of it");
        Renewed x = some();
        int inside = x.type(true, 1, 0, 0);
        int a = x.type(true, 1, 0, 0);
        int b = x.type(true, 1, 0, 0);
        x.method(inside, 1, 33, 0, 0);
        x.policy(1, SUPER);
        x.implement(a, inside);
        x.implement(b, a);
        int[][] faces = {{inside}, {a}, {b}, {5, b, a}, {5, a, inside}, {b, inside, 5}, {inside, b, a}};
        int[] due = {inside, a, b, b, a, b, inside};
        for (int i = 0; i < faces.length; i++) {
            Make.forge(x, 4, faces[i]);
            CHECK.text("I " + java.util.Arrays.toString(faces[i]), "42 183 I:p0/T" + due[i] + ".m1 ()V 177",
                    code(Listing.withMeanings(x).last()));
        }
    }

    private static void pushes() {
        CHECK.of("PUSH n: 3 + n up to 5, else 16 and n (1)");
        for (int policy : new int[] {INTERCEPTED, FIXED, DISPATCHED}) {
            Renewed x = some();
            for (int k = 0; k < 24; k++) {
                x.method(4, k % 10, 1, k / 10, 0);
            }
            for (int name = 0; name < 10; name++) {
                x.policy(name, policy);
            }
            CHECK.same("forge", 0, Make.forge(x, 4));
            List<String> methods = Listing.withMeanings(x).methods;
            String before = policy == INTERCEPTED ? CB + "42 " : CB;
            String behind = policy == INTERCEPTED ? "" : "185 ";
            for (int k = 0; k < 24; k++) {
                String push = k <= 5 ? 3 + k + " " : "16 " + k + " ";
                CHECK.yes("slot " + k, code(methods.get(k + 1)).startsWith("42 " + before + push + behind));
            }
        }
    }

    private static void howManyParameters() {
        CHECK.of("PUSH how many; numbered from 0");
        for (int n = 1; n <= 4; n++) {
            int[] kinds = new int[n];
            StringBuilder due = new StringBuilder("42 " + CB + "42 3 " + (3 + n) + " " + ARRAY);
            for (int i = 0; i < n; i++) {
                kinds[i] = 8;
                due.append("89 " + (3 + i) + " 25 " + (1 + i) + " 83 ");
            }
            String code = code(slot(INTERCEPTED, PUBLIC, Make.parameters(kinds), 0));
            CHECK.yes(n + " parameters: " + code, code.startsWith(due + ON));
        }
    }

    /** By hand: what is on the stack when it is fullest. */
    private static void depths() {
        CHECK.of("Depth: the greatest number of slots that are on the stack before or behind an instruction");
        int[][] kinds = {{}, {1}, {2}, {4, 3}, {1, 2}, {2, 2, 2, 2}};
        int[] slots = {0, 1, 2, 2, 3, 8};
        int[] intercepted = {4, 7, 8, 7, 8, 8};
        for (int i = 0; i < kinds.length; i++) {
            int parameters = Make.parameters(kinds[i]);
            for (int returned : RETURNED) {
                int back = returned == 2 ? 2 : 1;
                depth(intercepted[i], slot(INTERCEPTED, PUBLIC, parameters, returned));
                depth(intercepted[i], slot(INTERCEPTED, PUBLIC, parameters, returned, 1));
                depth(2, slot(FIXED, PUBLIC, parameters, returned));
                depth(Math.max(2, 1 + slots[i]), slot(DISPATCHED, PUBLIC, parameters, returned));
                depth(Math.max(back, 1 + slots[i]), slot(SUPER, PUBLIC, parameters, returned));
            }
        }
    }

    private static void depth(int due, String slot) {
        CHECK.text("depth of " + slot, String.valueOf(due), numbers(slot).split(" ")[2]);
    }

    private static void howManyMethods() {
        CHECK.of("how many methods (2), the methods");
        for (int n = 0; n <= 24; n++) {
            Renewed x = some();
            for (int k = 0; k < n; k++) {
                x.method(4, k % 10, 1, k / 10, 0);
            }
            Make.forge(x, 4);
            List<String> methods = Listing.withMeanings(x).methods;
            CHECK.same("methods", n + 1, methods.size());
        }
    }
}
