import java.util.Set;
import java.util.TreeSet;

/** Promises 4 and 5: methods and what they throw. */
public final class MethodsTest {
    private static final Check CHECK = new Check();
    private static final int CLASS = 4;
    private static final int ABSTRACT_CLASS = 5;
    private static final int FACE = 6;
    private static final int FINAL_CLASS = 7;
    private static final int NEAR_FACE = 8;
    private static final int THROWN = 9;
    private static final int TYPES = 10;
    private static final int FIRST = 4;
    private static final int[] FAR = {Integer.MIN_VALUE, -1, 60, 64, Integer.MAX_VALUE};

    public static void main(String[] args) {
        numbers();
        noSuchTypes();
        names();
        flagsOfClasses();
        flagsOfInterfaces();
        flagsOfConstructors();
        constructorsReturnNothing();
        parameterKinds();
        atMostFourParameters();
        zerosInside();
        returnedKinds();
        typesThatAreThereByNow();
        noTwoAlike();
        sixtyMethods();
        refusedMethodsAreNotMade();
        throwing();
        noSuchMethod();
        noSubtypeOfThrowable();
        thrownAlready();
        threeAreThrown();
        refusedThrowsAreNotThere();
        CHECK.end();
    }

    private static Renewed some() {
        Renewed x = new Renewed();
        x.type(false, 1, 0, 0);
        x.type(false, 5, 0, 0);
        x.type(true, 1, 0, 0);
        x.type(false, 3, 0, 0);
        x.type(true, 0, 1, 0);
        x.type(false, 1, 0, 1);
        return x;
    }

    /** On an object of its own: whether there may be such a method. */
    private static void may(boolean right, int type, int name, int flags, int parameters, int returned) {
        Renewed x = some();
        String call = "method(" + type + ", " + name + ", " + flags + ", " + parameters + ", " + returned + ")";
        if (!right) {
            CHECK.illegal(call, () -> x.method(type, name, flags, parameters, returned));
            return;
        }
        try {
            CHECK.same(call, FIRST, x.method(type, name, flags, parameters, returned));
        } catch (IllegalArgumentException e) {
            CHECK.no(call + " threw " + e, true);
        }
    }

    private static void numbers() {
        CHECK.of("METHODS are numbered as they are made");
        Renewed x = some();
        CHECK.same("a constructor", 4, x.method(CLASS, 10, 1, 0, 0));
        CHECK.same("a method", 5, x.method(CLASS, 0, 1, 0, 0));
        CHECK.same("of an interface", 6, x.method(FACE, 0, 33, 0, 0));
        CHECK.same("of the class again", 7, x.method(CLASS, 1, 4, 0, 0));
    }

    private static void noSuchTypes() {
        CHECK.of("Promise 4: A type (not 0 .. 3)");
        for (int type = -2; type <= 12; type++) {
            may(type >= 4 && type < TYPES, type, 0, 1, 0, 0);
        }
        for (int far : FAR) {
            may(false, far, 0, 1, 0, 0);
        }
        for (int type = 0; type < 4; type++) {
            may(false, type, 10, 1, 1, 0);
        }
    }

    private static void names() {
        CHECK.of("with a NAME 0 .. 9 or 10, a constructor (of classes alone)");
        for (int name = -3; name <= 20; name++) {
            may(name >= 0 && name <= 10, CLASS, name, 1, 0, 0);
            may(name >= 0 && name <= 9, FACE, name, 1, 0, 0);
            may(name >= 0 && name <= 9, CLASS, name, 1, 0, 1);
        }
        for (int far : FAR) {
            may(false, CLASS, far, 1, 0, 0);
        }
    }

    /** Access alone, STATIC, FINAL, both. */
    private static Set<Integer> withoutAbstract() {
        Set<Integer> right = new TreeSet<>();
        for (int access : new int[] {0, 1, 2, 4}) {
            right.addAll(Set.of(access, access + 8, access + 16, access + 24));
        }
        return right;
    }

    private static void flagsOfClasses() {
        CHECK.of("at most one access; ABSTRACT goes with none of 4, 8, 16, and, of classes, in ABSTRACT ones alone");
        Set<Integer> plain = withoutAbstract();
        Set<Integer> ofAbstract = new TreeSet<>(plain);
        ofAbstract.addAll(Set.of(32, 33, 34));
        for (int flags = -70; flags <= 140; flags++) {
            may(plain.contains(flags), CLASS, 3, flags, 0, 0);
            may(plain.contains(flags), FINAL_CLASS, 3, flags, 0, 0);
            may(ofAbstract.contains(flags), ABSTRACT_CLASS, 3, flags, 0, 0);
        }
        for (int flags : new int[] {Integer.MIN_VALUE, Integer.MIN_VALUE + 1, Integer.MAX_VALUE, 257, 1 << 20}) {
            may(false, CLASS, 3, flags, 0, 0);
        }
    }

    private static void flagsOfInterfaces() {
        CHECK.of("of interfaces they are PUBLIC, and perhaps ABSTRACT, no more");
        for (int flags = -70; flags <= 140; flags++) {
            may(flags == 1 || flags == 33, FACE, 3, flags, 0, 0);
            may(flags == 1 || flags == 33, NEAR_FACE, 3, flags, 0, 0);
        }
    }

    private static void flagsOfConstructors() {
        CHECK.of("A constructor has access alone");
        for (int flags = -70; flags <= 140; flags++) {
            boolean right = Set.of(0, 1, 2, 4).contains(flags);
            may(right, CLASS, 10, flags, 0, 0);
            may(right, ABSTRACT_CLASS, 10, flags, 0, 0);
            may(right, FINAL_CLASS, 10, flags, 0, 0);
            may(false, FACE, 10, flags, 0, 0);
        }
    }

    private static void constructorsReturnNothing() {
        CHECK.of("a constructor (<init>, returning nothing)");
        for (int returned = -1; returned <= 32; returned++) {
            may(returned == 0, CLASS, 10, 1, 0, returned);
        }
    }

    private static void parameterKinds() {
        CHECK.of("KINDS: 1 int, 2 long, 3 boolean, 4 and a type");
        for (int kind = 1; kind < 32; kind++) {
            boolean right = kind < 4 + TYPES;
            may(right, CLASS, 1, 1, Make.parameters(kind), 0);
            may(right, CLASS, 1, 1, Make.parameters(1, kind), 0);
            may(right, CLASS, 1, 1, Make.parameters(2, 3, kind), 0);
            may(right, CLASS, 1, 1, Make.parameters(4, 13, 1, kind), 0);
            may(right, CLASS, 1, 1, Make.parameters(kind, 1, 1, 1), 0);
            may(right, CLASS, 10, 1, Make.parameters(3, kind), 0);
        }
    }

    private static void atMostFourParameters() {
        CHECK.of("The parameters of a method, at most four");
        may(true, CLASS, 1, 1, 0, 0);
        may(true, CLASS, 1, 1, Make.parameters(1), 0);
        may(true, CLASS, 1, 1, Make.parameters(1, 1), 0);
        may(true, CLASS, 1, 1, Make.parameters(1, 1, 1), 0);
        may(true, CLASS, 1, 1, Make.parameters(1, 1, 1, 1), 0);
        may(true, CLASS, 1, 1, Make.parameters(13, 13, 13, 13), 0);
        for (int kind = 1; kind < 32; kind++) {
            may(false, CLASS, 1, 1, Make.parameters(1, 1, 1, 1, kind), 0);
            may(false, CLASS, 10, 1, Make.parameters(1, 1, 1, 1, kind), 0);
        }
        may(false, CLASS, 1, 1, Make.parameters(1, 1, 1, 1) + (1 << 25), 0);
        may(false, CLASS, 1, 1, Make.parameters(1, 1, 1, 1) + (1 << 30), 0);
        may(false, CLASS, 1, 1, Make.parameters(1, 1, 1, 1) + Integer.MIN_VALUE, 0);
        for (int parameters : new int[] {-1, -31, -32, Integer.MIN_VALUE, Integer.MAX_VALUE}) {
            may(false, CLASS, 1, 1, parameters, 0);
        }
    }

    private static void zerosInside() {
        CHECK.of("up to the first 0 (all above that is 0)");
        may(false, CLASS, 1, 1, Make.parameters(0, 1), 0);
        may(false, CLASS, 1, 1, Make.parameters(0, 0, 0, 1), 0);
        may(false, CLASS, 1, 1, Make.parameters(1, 0, 1), 0);
        may(false, CLASS, 1, 1, Make.parameters(1, 0, 0, 1), 0);
        may(false, CLASS, 1, 1, Make.parameters(1, 1, 0, 1), 0);
        may(false, CLASS, 1, 1, Make.parameters(1, 1, 1, 0, 1), 0);
        may(false, CLASS, 1, 1, Make.parameters(0, 0, 0, 0, 1), 0);
        for (int bit = 5; bit < 32; bit++) {
            may(false, CLASS, 1, 1, 1 << bit, 0);
        }
        for (int bit = 10; bit < 32; bit++) {
            may(false, CLASS, 1, 1, 1 + (1 << bit), 0);
        }
    }

    private static void returnedKinds() {
        CHECK.of("for what is returned also 0, nothing");
        for (int returned = -33; returned <= 70; returned++) {
            boolean right = returned >= 0 && returned < 4 + TYPES;
            may(right, CLASS, 1, 1, 0, returned);
            may(right, FACE, 1, 33, 1, returned);
        }
        may(false, CLASS, 1, 1, 0, Integer.MIN_VALUE);
        may(false, CLASS, 1, 1, 0, Integer.MAX_VALUE);
    }

    private static void typesThatAreThereByNow() {
        CHECK.of("4 and a type: of those that are there");
        Renewed x = some();
        int next = 4 + TYPES;
        CHECK.illegal("not yet", () -> x.method(CLASS, 1, 1, next, 0));
        CHECK.illegal("not yet", () -> x.method(CLASS, 1, 1, 0, next));
        x.type(false, 1, 0, 0);
        CHECK.same("by now", 4, x.method(CLASS, 1, 1, next, next));
        for (int type = TYPES + 1; type < 20; type++) {
            x.type(true, 1, 0, 0);
        }
        CHECK.same("type 19", 5, x.method(CLASS, 1, 1, Make.parameters(23, 23, 23, 23), 23));
        for (int kind = 24; kind < 32; kind++) {
            int none = kind;
            CHECK.illegal("there are no more than 20", () -> x.method(CLASS, 1, 1, Make.parameters(1, none), 0));
            CHECK.illegal("there are no more than 20", () -> x.method(CLASS, 1, 1, 0, none));
        }
    }

    private static void noTwoAlike() {
        CHECK.of("No two of a type have the same name, parameters and returned kind");
        Renewed x = some();
        x.method(CLASS, 1, 1, 1, 1);
        CHECK.illegal("the same", () -> x.method(CLASS, 1, 1, 1, 1));
        CHECK.illegal("with other flags", () -> x.method(CLASS, 1, 28, 1, 1));
        CHECK.same("another name", 5, x.method(CLASS, 2, 1, 1, 1));
        CHECK.same("other parameters", 6, x.method(CLASS, 1, 1, 2, 1));
        CHECK.same("more parameters", 7, x.method(CLASS, 1, 1, Make.parameters(1, 1), 1));
        CHECK.same("another returned kind", 8, x.method(CLASS, 1, 1, 1, 2));
        CHECK.same("nothing returned", 9, x.method(CLASS, 1, 1, 1, 0));
        CHECK.same("another type", 10, x.method(ABSTRACT_CLASS, 1, 1, 1, 1));
        CHECK.same("an interface", 11, x.method(FACE, 1, 1, 1, 1));
        CHECK.illegal("the first one still", () -> x.method(CLASS, 1, 1, 1, 1));
        CHECK.illegal("the last one", () -> x.method(FACE, 1, 33, 1, 1));
        CHECK.same("a constructor", 12, x.method(CLASS, 10, 1, 0, 0));
        CHECK.illegal("the same constructor", () -> x.method(CLASS, 10, 4, 0, 0));
        CHECK.same("another constructor", 13, x.method(CLASS, 10, 4, 1, 0));
        CHECK.same("of another type", 14, x.method(ABSTRACT_CLASS, 10, 4, 0, 0));
    }

    private static void sixtyMethods() {
        CHECK.of("Promise 4: IllegalStateException: there are 60");
        Renewed x = some();
        for (int m = 4; m < 60; m++) {
            CHECK.same("method", m, x.method(CLASS, m % 10, 1, 1 + m / 10, 0));
        }
        CHECK.full("method 60", () -> x.method(CLASS, 1, 1, 0, 0));
        CHECK.full("constructor 60", () -> x.method(CLASS, 10, 1, 0, 0));
        CHECK.full("of another type", () -> x.method(FACE, 1, 1, 0, 0));
        CHECK.illegal("a wrong one", () -> x.method(CLASS, 1, 1, 0, 99));
        CHECK.illegal("one that is there already", () -> x.method(CLASS, 4, 1, 1, 0));
        x.throwing(59, 1);
        CHECK.illegal("there is no method 60", () -> x.throwing(60, 1));
    }

    private static void refusedMethodsAreNotMade() {
        CHECK.of("Promise 4: a refused method is not made");
        Renewed x = some();
        int constructor = x.method(CLASS, 10, 1, 0, 0);
        CHECK.illegal("flags", () -> x.method(CLASS, 1, 3, 0, 0));
        CHECK.illegal("parameters", () -> x.method(CLASS, 1, 1, 31, 0));
        CHECK.illegal("there already", () -> x.method(CLASS, 10, 1, 0, 0));
        CHECK.illegal("it can't throw", () -> x.throwing(constructor + 1, 1));
        CHECK.same("forge", 0, Make.forge(x, CLASS));
        CHECK.same("slots", 0, x.slots());
        CHECK.same("the next one", constructor + 1, x.method(CLASS, 1, 1, 0, 0));
    }

    /** What the only slot of a proxy of CLASS throws, as its file tells it. */
    private static String thrown(Renewed x) {
        CHECK.same("forge", 0, Make.forge(x, CLASS));
        String slot = Listing.withMeanings(x).last();
        int at = slot.indexOf("Exceptions");
        return at < 0 ? "nothing" : slot.substring(at);
    }

    private static void throwing() {
        CHECK.of("One may THROW types that are subtypes of THROWABLE, in the order in which that is said");
        Renewed x = some();
        x.method(CLASS, 10, 1, 0, 0);
        int m = x.method(CLASS, 1, 1, 0, 0);
        CHECK.text("none", "nothing", thrown(x));
        x.throwing(m, THROWN);
        CHECK.text("one", "Exceptions 4 [p0/T9]", thrown(x));
        x.throwing(m, 3);
        CHECK.text("two", "Exceptions 6 [p0/T9, java/lang/RuntimeException]", thrown(x));
        x.throwing(m, 1);
        CHECK.text("three", "Exceptions 8 [p0/T9, java/lang/RuntimeException, java/lang/Throwable]", thrown(x));
    }

    private static void noSuchMethod() {
        CHECK.of("Promise 5: A method (not 0 .. 3); there is no such method");
        Renewed x = some();
        int constructor = x.method(CLASS, 10, 1, 0, 0);
        int m = x.method(FACE, 1, 1, 0, 0);
        for (int first = 0; first < 4; first++) {
            int method = first;
            CHECK.illegal("of method " + first, () -> x.throwing(method, 1));
        }
        for (int far : FAR) {
            CHECK.illegal("of method " + far, () -> x.throwing(far, 1));
        }
        CHECK.illegal("of the next one", () -> x.throwing(m + 1, 1));
        x.throwing(constructor, 1);
        CHECK.illegal("a constructor throws, too", () -> x.throwing(constructor, 1));
        x.throwing(m, 1);
        CHECK.illegal("the last one throws, too", () -> x.throwing(m, 1));
    }

    private static void noSubtypeOfThrowable() {
        CHECK.of("Promise 5: the type is no subtype of THROWABLE");
        Renewed x = some();
        int m = x.method(CLASS, 1, 1, 0, 0);
        for (int type = -1; type <= TYPES; type++) {
            boolean right = type >= 1 && type <= 3 || type == THROWN;
            int thrown = type;
            if (!right) {
                CHECK.illegal("throwing type " + type, () -> x.throwing(m, thrown));
            }
        }
        for (int far : FAR) {
            CHECK.illegal("throwing type " + far, () -> x.throwing(m, far));
        }
        for (int type : new int[] {1, 2, 3, THROWN}) {
            Renewed y = some();
            int n = y.method(CLASS, 1, 1, 0, 0);
            y.throwing(n, type);
            CHECK.illegal("type " + type + " is thrown by now", () -> y.throwing(n, type));
        }
    }

    private static void thrownAlready() {
        CHECK.of("Promise 5: or it is thrown already");
        Renewed x = some();
        int m = x.method(CLASS, 1, 1, 0, 0);
        int other = x.method(CLASS, 2, 1, 0, 0);
        x.throwing(m, 2);
        CHECK.illegal("the only one", () -> x.throwing(m, 2));
        x.throwing(m, 3);
        CHECK.illegal("the first one", () -> x.throwing(m, 2));
        CHECK.illegal("the second one", () -> x.throwing(m, 3));
        x.throwing(other, 2);
        x.throwing(m, 1);
        CHECK.illegal("above the others, but once", () -> x.throwing(m, 1));
    }

    private static void threeAreThrown() {
        CHECK.of("Promise 5: or three are");
        Renewed x = some();
        int m = x.method(CLASS, 1, 1, 0, 0);
        int other = x.method(CLASS, 2, 1, 0, 0);
        x.throwing(m, 1);
        x.throwing(m, 2);
        x.throwing(m, 3);
        CHECK.illegal("a fourth", () -> x.throwing(m, THROWN));
        x.throwing(other, THROWN);
        CHECK.illegal("another method has its own", () -> x.throwing(other, THROWN));
        Renewed y = some();
        for (int i = 4; i < 60; i++) {
            y.method(CLASS, i % 10, 1, 1 + i / 10, 0);
        }
        y.throwing(59, 2);
        y.throwing(59, 3);
        y.throwing(59, THROWN);
        CHECK.illegal("a fourth of the last method that there may be", () -> y.throwing(59, 1));
    }

    private static void refusedThrowsAreNotThere() {
        CHECK.of("Promise 5: what is refused is not thrown");
        Renewed x = some();
        x.method(CLASS, 10, 1, 0, 0);
        int m = x.method(CLASS, 1, 1, 0, 0);
        CHECK.illegal("no throwable", () -> x.throwing(m, CLASS));
        CHECK.text("none", "nothing", thrown(x));
        x.throwing(m, 2);
        CHECK.illegal("again", () -> x.throwing(m, 2));
        CHECK.text("once", "Exceptions 4 [java/lang/Error]", thrown(x));
        x.throwing(m, 3);
        x.throwing(m, THROWN);
        CHECK.illegal("a fourth", () -> x.throwing(m, 1));
        CHECK.text("three", "Exceptions 8 [java/lang/Error, java/lang/RuntimeException, p0/T9]", thrown(x));
    }
}
