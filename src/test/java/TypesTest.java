/** Promises 1, 2, 3 and 6: what is there at first, types, interfaces, subtypes. */
public final class TypesTest {
    private static final Check CHECK = new Check();

    public static void main(String[] args) {
        newObject();
        typesAreNumbered();
        wrongTypes();
        twentyTypes();
        interfaces();
        wrongInterfaces();
        subtypes();
        CHECK.end();
    }

    private static void newObject() {
        ProxyForge x = new ProxyForge();
        CHECK.same("NONE", -1, ProxyForge.NONE);
        for (int type = 0; type < 4; type++) {
            for (int of = 0; of < 4; of++) {
                boolean due = of == type || of == 0 || (of == 1 && type > 1);
                CHECK.same("isSubtype(" + type + ", " + of + ")", due ? 1 : 0, x.isSubtype(type, of) ? 1 : 0);
            }
        }
        CHECK.no("isSubtype(4, 0)", x.isSubtype(4, 0));
        CHECK.same("slots", 0, x.slots());
        CHECK.same("slot", -1, x.slot(0));
        CHECK.same("size", 0, x.size());
        CHECK.same("byteAt", -1, x.byteAt(0));
        CHECK.no("change", x.change(0, 1));
        CHECK.yes("cut(0)", x.cut(0));
        CHECK.no("cut(1)", x.cut(1));
        CHECK.same("read", 0, x.read());
        CHECK.same("result", 0, x.result());
        CHECK.same("asked", -1, x.asked());
        CHECK.same("given", -1, x.given(0, 0));
        CHECK.illegal("call", () -> x.call(0, 0, 0, 0, 0));
        int type = x.type(false, 1, 0, 0);
        CHECK.same("first method", 4, x.method(type, 10, 1, 0, 0));
        x.method(type, 0, 1, 0, 4);
        CHECK.same("forge", 0, x.forge(type, -1, -1, -1));
        CHECK.same("the callback answers null", 0, x.call(0, 0, 0, 0, 0));
        CHECK.same("null", -1, x.result());
        CHECK.same("the policy is INTERCEPTED", 0, x.asked());
    }

    private static void typesAreNumbered() {
        ProxyForge x = new ProxyForge();
        CHECK.same("class", 4, x.type(false, 0, 0, 0));
        CHECK.same("public final class", 5, x.type(false, 3, 3, 4));
        CHECK.same("public abstract class", 6, x.type(false, 5, 1, 3));
        CHECK.same("interface", 7, x.type(true, 0, 2, 0));
        CHECK.same("public interface", 8, x.type(true, 1, 2, 0));
        CHECK.same("of an abstract class", 9, x.type(false, 4, 2, 6));
    }

    private static void wrongTypes() {
        ProxyForge x = new ProxyForge();
        x.type(false, 2, 0, 0);
        x.type(true, 1, 0, 0);
        int[][] wrong = {
            {0, 8, 0, 0}, {0, -1, 0, 0}, {0, 6, 0, 0}, {0, 7, 0, 0}, {1, 2, 0, 0}, {1, 4, 0, 0}, {1, 3, 0, 0},
            {0, 1, 4, 0}, {0, 1, -1, 0}, {0, 1, 0, 4}, {0, 1, 0, 5}, {0, 1, 0, 6}, {0, 1, 0, -1}, {1, 1, 0, 1},
            {1, 1, 0, 5}, {1, 1, 0, -1}, {0, 1, 0, Integer.MAX_VALUE}, {0, Integer.MIN_VALUE, 0, 0},
        };
        for (int[] w : wrong) {
            CHECK.illegal("type" + java.util.Arrays.toString(w), () -> x.type(w[0] == 1, w[1], w[2], w[3]));
        }
        CHECK.same("nothing was made", 6, x.type(false, 0, 0, 0));
    }

    private static void twentyTypes() {
        ProxyForge x = new ProxyForge();
        for (int type = 4; type < 20; type++) {
            CHECK.same("type", type, x.type(type % 2 == 0, 1, type % 4, 0));
        }
        CHECK.full("type 20", () -> x.type(false, 1, 0, 0));
        CHECK.illegal("a wrong type 20", () -> x.type(false, 8, 0, 0));
        CHECK.yes("19", x.isSubtype(19, 0));
        CHECK.no("20", x.isSubtype(20, 0));
    }

    private static void interfaces() {
        ProxyForge x = new ProxyForge();
        for (int i = 0; i < 6; i++) {
            x.type(true, 1, 0, 0);
        }
        int type = x.type(false, 1, 0, 0);
        for (int face = 4; face < 8; face++) {
            x.implement(type, face);
            CHECK.yes("implements", x.isSubtype(type, face));
        }
        CHECK.illegal("a fifth interface", () -> x.implement(type, 8));
        CHECK.no("a fifth interface", x.isSubtype(type, 8));
    }

    private static void wrongInterfaces() {
        ProxyForge x = new ProxyForge();
        int a = x.type(true, 1, 0, 0);
        int b = x.type(true, 1, 1, 0);
        int c = x.type(true, 1, 2, 0);
        int type = x.type(false, 1, 0, 0);
        x.implement(a, b);
        x.implement(b, c);
        x.implement(type, a);
        CHECK.illegal("twice", () -> x.implement(type, a));
        CHECK.illegal("itself", () -> x.implement(a, a));
        CHECK.illegal("in a round", () -> x.implement(b, a));
        CHECK.illegal("in a longer round", () -> x.implement(c, a));
        CHECK.illegal("a class", () -> x.implement(a, type));
        CHECK.illegal("a class", () -> x.implement(a, 0));
        CHECK.illegal("of a class", () -> x.implement(type, type));
        for (int t = 0; t < 4; t++) {
            int first = t;
            CHECK.illegal("of type " + t, () -> x.implement(first, a));
        }
        CHECK.illegal("of none", () -> x.implement(8, a));
        CHECK.illegal("of none", () -> x.implement(-1, a));
        CHECK.illegal("none", () -> x.implement(type, 8));
        CHECK.illegal("none", () -> x.implement(type, -1));
        x.implement(type, c);
        x.implement(a, c);
        CHECK.yes("what it is a subtype of may be given to it", x.isSubtype(a, c));
    }

    private static void subtypes() {
        ProxyForge x = new ProxyForge();
        int face = x.type(true, 1, 0, 0);
        int far = x.type(true, 1, 0, 0);
        int parent = x.type(false, 1, 0, 3);
        int child = x.type(false, 1, 0, parent);
        x.implement(parent, face);
        CHECK.no("not yet", x.isSubtype(child, far));
        x.implement(face, far);
        CHECK.yes("a parent's interface's interface", x.isSubtype(child, far));
        CHECK.yes("a parent's interface", x.isSubtype(child, face));
        CHECK.yes("the parent", x.isSubtype(child, parent));
        CHECK.no("not the child", x.isSubtype(parent, child));
        CHECK.yes("a runtime exception", x.isSubtype(child, 3));
        CHECK.yes("a throwable", x.isSubtype(child, 1));
        CHECK.no("no error", x.isSubtype(child, 2));
        CHECK.yes("an interface is an object", x.isSubtype(face, 0));
        CHECK.no("an interface is no throwable", x.isSubtype(face, 1));
        CHECK.no("no interface is of a class", x.isSubtype(far, parent));
        CHECK.yes("itself", x.isSubtype(far, far));
        CHECK.no("none", x.isSubtype(-1, 0));
        CHECK.no("none", x.isSubtype(0, -1));
        CHECK.no("none", x.isSubtype(8, 8));
        CHECK.no("none", x.isSubtype(Integer.MIN_VALUE, Integer.MAX_VALUE));
        CHECK.no("none", x.isSubtype(4, 36));
    }
}
