import java.util.Set;

/** Promises 2, 3 and 6: types, their interfaces, subtypes. */
public final class TypesTest {
    private static final Check CHECK = new Check();
    private static final int NONE = ProxyForge.NONE;
    private static final int[] FAR = {Integer.MIN_VALUE, -32, -2, -1, 20, 32, 36, 64, Integer.MAX_VALUE};

    public static void main(String[] args) {
        numbers();
        flags();
        packages();
        parentsOfClasses();
        parentsOfInterfaces();
        refusedTypesAreNotMade();
        twentyTypes();
        implementing();
        noSuchTypes();
        hasItAlready();
        hasFour();
        isSubtypeOfIt();
        refusedInterfacesAreNotThere();
        itselfAndParents();
        interfacesAndTheirs();
        interfacesAreObjects();
        givenLater();
        noSuchSubtypes();
        CHECK.end();
    }

    private static void made(String what, boolean right, Renewed x, boolean face, int flags, int pack, int parent) {
        String call = what + ": type(" + face + ", " + flags + ", " + pack + ", " + parent + ")";
        if (right) {
            try {
                CHECK.yes(call, x.type(face, flags, pack, parent) >= 4);
            } catch (IllegalArgumentException e) {
                CHECK.no(call + " threw " + e, true);
            }
        } else {
            CHECK.illegal(call, () -> x.type(face, flags, pack, parent));
        }
    }

    private static void numbers() {
        CHECK.of("Promise 2: A type is made: its number");
        Renewed x = new Renewed();
        CHECK.same("class", 4, x.type(false, 0, 0, 0));
        CHECK.same("public final class", 5, x.type(false, 3, 3, 4));
        CHECK.same("public abstract class", 6, x.type(false, 5, 1, 3));
        CHECK.same("interface", 7, x.type(true, 0, 2, 0));
        CHECK.same("public interface", 8, x.type(true, 1, 2, 0));
        CHECK.same("of an abstract class of another package", 9, x.type(false, 4, 2, 6));
    }

    private static void flags() {
        CHECK.of("Promise 2: other flags, 2 and 4 together, or 2 or 4 for an interface");
        Set<Integer> ofClasses = Set.of(0, 1, 2, 3, 4, 5);
        Set<Integer> ofInterfaces = Set.of(0, 1);
        for (int flags = -9; flags <= 40; flags++) {
            made("class", ofClasses.contains(flags), new Renewed(), false, flags, 0, 0);
            made("interface", ofInterfaces.contains(flags), new Renewed(), true, flags, 0, 0);
        }
        for (int flags : new int[] {Integer.MIN_VALUE, Integer.MIN_VALUE + 1, Integer.MAX_VALUE, 256, 257, 1 << 16}) {
            made("class", false, new Renewed(), false, flags, 0, 0);
            made("interface", false, new Renewed(), true, flags, 0, 0);
        }
    }

    private static void packages() {
        CHECK.of("Promise 2: no package 0 .. 3");
        for (int pack = -2; pack <= 9; pack++) {
            boolean right = pack >= 0 && pack <= 3;
            made("class", right, new Renewed(), false, 1, pack, 0);
            made("interface", right, new Renewed(), true, 1, pack, 0);
        }
        made("class", false, new Renewed(), false, 1, Integer.MIN_VALUE, 0);
        made("class", false, new Renewed(), false, 1, Integer.MAX_VALUE, 0);
    }

    /** Made: 4 PUBLIC, 5 not so, 6 FINAL, 7 PUBLIC FINAL, 8 ABSTRACT, 9 an interface, 10 a PUBLIC one. */
    private static Renewed many() {
        Renewed x = new Renewed();
        x.type(false, 1, 0, 0);
        x.type(false, 0, 1, 0);
        x.type(false, 2, 0, 0);
        x.type(false, 3, 0, 4);
        x.type(false, 4, 0, 1);
        x.type(true, 0, 0, 0);
        x.type(true, 1, 0, 0);
        return x;
    }

    private static void parentsOfClasses() {
        CHECK.of("Promise 2: the parent is no class, or FINAL");
        for (int parent = 0; parent <= 11; parent++) {
            boolean right = parent <= 5 || parent == 8;
            made("class", right, many(), false, 1, 3, parent);
            made("final class", right, many(), false, 2, 3, parent);
            made("abstract class", right, many(), false, 4, 3, parent);
        }
        for (int far : FAR) {
            made("class", false, many(), false, 1, 3, far);
        }
    }

    private static void parentsOfInterfaces() {
        CHECK.of("Promise 2: the parent is, of an interface, not 0");
        for (int parent = 0; parent <= 11; parent++) {
            made("interface", parent == 0, many(), true, 1, 3, parent);
        }
        for (int far : FAR) {
            made("interface", false, many(), true, 0, 3, far);
        }
    }

    private static void refusedTypesAreNotMade() {
        CHECK.of("Promise 2: a refused type is not made");
        Renewed x = many();
        CHECK.illegal("flags", () -> x.type(false, 8, 0, 0));
        CHECK.illegal("package", () -> x.type(false, 1, 4, 0));
        CHECK.illegal("parent", () -> x.type(false, 1, 0, 11));
        CHECK.no("11 is not there", x.isSubtype(11, 11));
        CHECK.same("it is 11", 11, x.type(false, 0, 0, 0));
        CHECK.yes("11 is there", x.isSubtype(11, 0));
    }

    private static void twentyTypes() {
        CHECK.of("Promise 2: IllegalStateException: there are 20");
        Renewed x = new Renewed();
        for (int type = 4; type < 20; type++) {
            CHECK.no("not yet " + type, x.isSubtype(type, 0));
            CHECK.same("type", type, x.type(type % 2 == 0, 1, type % 4, 0));
        }
        CHECK.full("a class more", () -> x.type(false, 1, 0, 0));
        CHECK.full("an interface more", () -> x.type(true, 1, 0, 0));
        CHECK.illegal("a wrong one more", () -> x.type(false, 8, 0, 0));
        CHECK.yes("19", x.isSubtype(19, 0));
        CHECK.no("20", x.isSubtype(20, 0));
        x.implement(19, 18);
        CHECK.yes("the last ones are as good as others", x.isSubtype(19, 18));
        x.method(19, 10, 1, 23 + 32 * 22, 0);
        CHECK.same("forge of the last ones", 0, x.forge(19, 18, 4, NONE));
    }

    private static void implementing() {
        CHECK.of("Promise 3: A type (not 0 .. 3) has an interface, too");
        Renewed x = many();
        for (int type = 4; type <= 8; type++) {
            x.implement(type, 9);
            CHECK.yes("class " + type, x.isSubtype(type, 9));
            CHECK.no("class " + type, x.isSubtype(type, 10));
        }
        x.implement(10, 9);
        CHECK.yes("an interface", x.isSubtype(10, 9));
        for (int type = 0; type < 4; type++) {
            int first = type;
            CHECK.illegal("implement(" + type + ", 10)", () -> x.implement(first, 10));
            CHECK.no("type " + type, x.isSubtype(type, 10));
        }
    }

    private static void noSuchTypes() {
        CHECK.of("Promise 3: there are no such ones");
        Renewed x = many();
        for (int far : FAR) {
            CHECK.illegal("implement(" + far + ", 9)", () -> x.implement(far, 9));
            CHECK.illegal("implement(4, " + far + ")", () -> x.implement(4, far));
        }
        CHECK.illegal("the next one", () -> x.implement(11, 9));
        CHECK.illegal("the next one", () -> x.implement(4, 11));
        for (int type = 0; type <= 8; type++) {
            int parent = type;
            CHECK.illegal("a class is no interface: " + type, () -> x.implement(4, parent));
            CHECK.illegal("a class is no interface: " + type, () -> x.implement(10, parent));
        }
    }

    private static void hasItAlready() {
        CHECK.of("Promise 3: it has that already");
        Renewed x = faces(6);
        int type = x.type(false, 1, 0, 0);
        for (int face = 4; face < 7; face++) {
            x.implement(type, face);
            for (int before = 4; before <= face; before++) {
                int again = before;
                CHECK.illegal("again " + before, () -> x.implement(type, again));
            }
        }
        int child = x.type(false, 1, 0, type);
        x.implement(child, 4);
        CHECK.illegal("its own by now", () -> x.implement(child, 4));
        x.implement(8, 9);
        x.implement(type, 8);
        Renewed y = faces(2);
        int second = y.type(false, 1, 0, 0);
        y.implement(4, 5);
        y.implement(second, 4);
        y.implement(second, 5);
        CHECK.illegal("what it is a subtype of by another it may have, but once", () -> y.implement(second, 5));
    }

    private static Renewed faces(int n) {
        Renewed x = new Renewed();
        for (int i = 0; i < n; i++) {
            x.type(true, 1, 0, 0);
        }
        return x;
    }

    private static void hasFour() {
        CHECK.of("Promise 3: or four");
        for (boolean face : new boolean[] {false, true}) {
            Renewed x = faces(6);
            int type = x.type(face, 1, 0, 0);
            for (int i = 4; i < 8; i++) {
                x.implement(type, i);
                CHECK.yes("has " + i, x.isSubtype(type, i));
            }
            CHECK.illegal("a fifth", () -> x.implement(type, 8));
            CHECK.no("a fifth", x.isSubtype(type, 8));
            int other = x.type(face, 1, 0, 0);
            x.implement(other, 8);
            CHECK.yes("another type has its own four", x.isSubtype(other, 8));
            CHECK.no("another type has its own four", x.isSubtype(other, 7));
        }
        Renewed x = faces(15);
        int last = x.type(false, 1, 0, 0);
        CHECK.same("the last type that there may be", 19, last);
        for (int i = 4; i < 8; i++) {
            x.implement(last, i);
        }
        CHECK.illegal("a fifth", () -> x.implement(last, 8));
        CHECK.illegal("the fourth again", () -> x.implement(last, 7));
    }

    private static void isSubtypeOfIt() {
        CHECK.of("Promise 3: or the interface is a subtype of it");
        Renewed x = faces(4);
        for (int face = 4; face < 8; face++) {
            int itself = face;
            CHECK.illegal("itself", () -> x.implement(itself, itself));
        }
        x.implement(4, 5);
        CHECK.illegal("a round of two", () -> x.implement(5, 4));
        x.implement(5, 6);
        CHECK.illegal("a round of three", () -> x.implement(6, 4));
        x.implement(6, 7);
        CHECK.illegal("a round of four", () -> x.implement(7, 4));
        CHECK.illegal("a round of three", () -> x.implement(7, 5));
        x.implement(4, 7);
        CHECK.yes("the other way it may have it, though it is a subtype already", x.isSubtype(4, 7));
        CHECK.no("no round", x.isSubtype(7, 4));
    }

    private static void refusedInterfacesAreNotThere() {
        CHECK.of("Promise 3: a refused interface is not there");
        Renewed x = faces(3);
        int type = Make.base(x, 1, 0, 0);
        int first = x.method(4, 1, 1, 0, 0);
        int second = x.method(5, 2, 1, 0, 0);
        x.implement(type, 5);
        CHECK.illegal("again", () -> x.implement(type, 5));
        CHECK.illegal("none", () -> x.implement(type, 8));
        x.implement(type, 4);
        CHECK.same("forge", 0, Make.forge(x, type));
        CHECK.same("slots", 2, x.slots());
        CHECK.same("slot 0", second, x.slot(0));
        CHECK.same("slot 1", first, x.slot(1));
    }

    private static void itselfAndParents() {
        CHECK.of("A type is a SUBTYPE of itself, its parent, and of what these are subtypes of");
        Renewed x = new Renewed();
        for (int type = 4; type < 20; type++) {
            x.type(false, 1, 0, type == 4 ? 3 : type - 1);
        }
        for (int type = 4; type < 20; type++) {
            for (int of = 0; of < 20; of++) {
                boolean due = of <= type && of != 2;
                CHECK.same("isSubtype(" + type + ", " + of + ")", due ? 1 : 0, x.isSubtype(type, of) ? 1 : 0);
            }
        }
    }

    private static void interfacesAndTheirs() {
        CHECK.of("A type is a SUBTYPE of its interfaces, and of what these are subtypes of");
        Renewed x = faces(5);
        int parent = x.type(false, 1, 0, 3);
        int child = x.type(false, 1, 0, parent);
        x.implement(parent, 4);
        x.implement(4, 5);
        x.implement(4, 6);
        x.implement(6, 7);
        for (int face = 4; face <= 7; face++) {
            CHECK.yes("the class and " + face, x.isSubtype(parent, face));
            CHECK.yes("its child and " + face, x.isSubtype(child, face));
            CHECK.no("no interface is of a class", x.isSubtype(face, parent));
        }
        CHECK.no("one that none of them has", x.isSubtype(child, 8));
        CHECK.no("the parent is not of its child", x.isSubtype(parent, child));
        CHECK.no("brothers", x.isSubtype(5, 6));
        CHECK.yes("two steps", x.isSubtype(4, 7));
        CHECK.yes("a runtime exception", x.isSubtype(child, 3));
        CHECK.yes("a throwable", x.isSubtype(child, 1));
        CHECK.no("no error", x.isSubtype(child, 2));
    }

    private static void interfacesAreObjects() {
        CHECK.of("an interface also of OBJECT");
        Renewed x = faces(1);
        CHECK.yes("of OBJECT", x.isSubtype(4, 0));
        CHECK.yes("of itself", x.isSubtype(4, 4));
        CHECK.no("of THROWABLE", x.isSubtype(4, 1));
        CHECK.no("of ERROR", x.isSubtype(4, 2));
        CHECK.no("of RUNTIME EXCEPTION", x.isSubtype(4, 3));
        CHECK.no("OBJECT of it", x.isSubtype(0, 4));
    }

    private static void givenLater() {
        CHECK.of("Promise 6: an interface that is given later counts for all below");
        Renewed x = faces(2);
        int parent = x.type(false, 1, 0, 0);
        int child = x.type(false, 1, 0, parent);
        x.implement(parent, 4);
        CHECK.no("not yet", x.isSubtype(child, 5));
        x.implement(4, 5);
        CHECK.yes("by now", x.isSubtype(child, 5));
        CHECK.no("not above", x.isSubtype(0, 5));
    }

    private static void noSuchSubtypes() {
        CHECK.of("Promise 6: false if there are no such ones");
        Renewed x = many();
        for (int far : FAR) {
            for (int type = 0; type <= 10; type++) {
                CHECK.no("isSubtype(" + far + ", " + type + ")", x.isSubtype(far, type));
                CHECK.no("isSubtype(" + type + ", " + far + ")", x.isSubtype(type, far));
            }
            CHECK.no("isSubtype(" + far + ", itself)", x.isSubtype(far, far));
        }
        CHECK.no("the next one", x.isSubtype(11, 11));
        CHECK.no("the next one", x.isSubtype(11, 0));
        CHECK.no("the next one", x.isSubtype(0, 11));
    }
}
