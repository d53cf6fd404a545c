/** Promises 7 to 10: policies, which proxies are made, which slots they have. */
public final class ForgeTest {
    private static final Check CHECK = new Check();
    private static final int NONE = ProxyForge.NONE;

    public static void main(String[] args) {
        policies();
        wrongTypes();
        refusedClass();
        refusedConstructors();
        refusedInterfaces();
        refusedReturnedKinds();
        refusedSlots();
        firstRefusalCounts();
        orderOfClassesAndInterfaces();
        whichMethodsAreSlots();
        theOneBeforeStays();
        CHECK.end();
    }

    private static int base(ProxyForge x, int flags, int pack, int parent) {
        int type = x.type(false, flags, pack, parent);
        x.method(type, 10, 1, 0, 0);
        return type;
    }

    private static int forge(ProxyForge x, int type, int... faces) {
        int[] all = java.util.Arrays.copyOf(faces, 3);
        java.util.Arrays.fill(all, faces.length, 3, NONE);
        return x.forge(type, all[0], all[1], all[2]);
    }

    private static void slots(String what, ProxyForge x, int... due) {
        CHECK.same(what + ": slots", due.length, x.slots());
        for (int k = 0; k < due.length; k++) {
            CHECK.same(what + ": slot " + k, due[k], x.slot(k));
        }
        CHECK.same(what + ": behind them", NONE, x.slot(due.length));
        CHECK.same(what + ": before them", NONE, x.slot(-1));
    }

    private static void policies() {
        ProxyForge x = new ProxyForge();
        for (int name = 0; name < 10; name++) {
            for (int kind = 0; kind < 4; kind++) {
                CHECK.yes("policy", x.policy(name, kind));
            }
        }
        CHECK.no("name -1", x.policy(-1, 0));
        CHECK.no("name 10", x.policy(10, 0));
        CHECK.no("kind -1", x.policy(0, -1));
        CHECK.no("kind 4", x.policy(0, 4));
        int type = base(x, 1, 0, 0);
        x.method(type, 3, 1, 0, 1);
        x.method(type, 4, 1, 0, 1);
        x.policy(3, 2);
        x.policy(4, 1);
        forge(x, type);
        x.policy(3, 0);
        x.call(0, 0, 0, 0, 0);
        CHECK.same("SUPER as when the proxy was made", NONE, x.asked());
        x.call(1, 0, 0, 0, 0);
        CHECK.same("FIXED", 1, x.asked());
        CHECK.no("a wrong kind changes nothing", x.policy(4, 7));
        forge(x, type);
        CHECK.same("INTERCEPTED now", 2, x.call(0, 0, 0, 0, 0));
        CHECK.same("asked", 0, x.asked());
    }

    private static void wrongTypes() {
        ProxyForge x = new ProxyForge();
        int type = base(x, 1, 0, 0);
        int face = x.type(true, 1, 0, 0);
        int other = x.type(true, 1, 0, 0);
        CHECK.illegal("no class", () -> x.forge(7, NONE, NONE, NONE));
        CHECK.illegal("NONE as class", () -> x.forge(NONE, NONE, NONE, NONE));
        CHECK.illegal("no interface", () -> x.forge(type, 7, NONE, NONE));
        CHECK.illegal("no interface", () -> x.forge(type, -2, NONE, NONE));
        CHECK.illegal("no interface", () -> x.forge(type, face, 20, NONE));
        CHECK.illegal("no interface", () -> x.forge(type, face, other, 7));
        CHECK.illegal("behind NONE", () -> x.forge(type, NONE, face, NONE));
        CHECK.illegal("behind NONE", () -> x.forge(type, face, NONE, other));
        CHECK.illegal("behind NONE", () -> x.forge(type, NONE, NONE, face));
        CHECK.illegal("none, behind NONE", () -> x.forge(type, NONE, 99, NONE));
        CHECK.illegal("of a refused class, too", () -> x.forge(face, NONE, NONE, other));
        CHECK.same("no proxy", 0, x.size());
        CHECK.same("right", 0, x.forge(type, face, other, NONE));
    }

    private static void refusedClass() {
        ProxyForge x = new ProxyForge();
        int face = x.type(true, 1, 0, 0);
        int closed = base(x, 3, 0, 0);
        CHECK.same("an interface", 1, forge(x, face));
        CHECK.same("FINAL", 1, forge(x, closed));
        for (int first = 0; first < 4; first++) {
            CHECK.same("type " + first, 0, forge(x, first));
            slots("type " + first, x);
        }
        CHECK.same("ABSTRACT", 0, forge(x, base(x, 4, 0, 0)));
    }

    private static void refusedConstructors() {
        ProxyForge x = new ProxyForge();
        int parent = base(x, 1, 0, 0);
        int type = x.type(false, 1, 0, parent);
        x.method(type, 0, 1, 0, 0);
        CHECK.same("none of its own", 2, forge(x, type));
        x.method(type, 10, 4, 0, 0);
        CHECK.same("PRIVATE", 2, forge(x, type));
        x.method(type, 10, 4, 1, 0);
        CHECK.same("all PRIVATE", 2, forge(x, type));
        x.method(type, 10, 0, 2, 0);
        CHECK.same("one is PACKAGE", 0, forge(x, type));
    }

    private static void refusedInterfaces() {
        ProxyForge x = new ProxyForge();
        int type = base(x, 1, 0, 0);
        int face = x.type(true, 1, 1, 0);
        int other = x.type(true, 1, 1, 0);
        int near = x.type(true, 0, 0, 0);
        int far = x.type(true, 0, 1, 0);
        CHECK.same("a class", 3, forge(x, type, type));
        CHECK.same("a class behind others", 3, forge(x, type, face, other, 0));
        CHECK.same("twice", 3, forge(x, type, face, face));
        CHECK.same("twice, not next to each other", 3, forge(x, type, face, other, face));
        CHECK.same("twice behind", 3, forge(x, type, other, face, face));
        CHECK.same("not PUBLIC, of another package", 4, forge(x, type, face, far));
        CHECK.same("not PUBLIC, of the same package", 0, forge(x, type, near, face));
        CHECK.same("not PUBLIC, with a class in no package", 4, forge(x, 0, near));
        CHECK.same("3 comes before 4", 3, forge(x, type, far, face, face));
        x.implement(face, far);
        CHECK.same("one that is only met is not looked at", 0, forge(x, type, face));
        x.implement(type, far);
        CHECK.same("nor one of the class", 0, forge(x, type));
    }

    private static void refusedReturnedKinds() {
        int[][] clashes = {{1, 2, 5}, {0, 1, 5}, {3, 4, 5}, {0, 4, 5}, {6, 7, 5}, {4, 5, 0}, {7, 5, 0}, {2, 2, 0}};
        for (int[] c : clashes) {
            ProxyForge x = new ProxyForge();
            int type = base(x, 1, 0, 0);
            int face = x.type(true, 1, 0, 0);
            x.method(type, 1, 1, 1, c[0]);
            x.method(face, 1, 1, 1, c[1]);
            CHECK.same("returned kinds " + c[0] + ", " + c[1], c[2], forge(x, type, face));
        }
        ProxyForge x = new ProxyForge();
        int type = base(x, 1, 0, 0);
        int face = x.type(true, 1, 0, 0);
        int other = x.type(true, 1, 0, 0);
        x.method(type, 1, 1, 0, 4 + face);
        x.method(face, 1, 1, 0, 4 + other);
        CHECK.same("types that are no subtypes", 5, forge(x, type, face));
        x.implement(other, face);
        CHECK.same("subtypes by now", 0, forge(x, type, face));
        x.method(other, 2, 1, 0, 1);
        x.method(type, 2, 17, 0, 2);
        CHECK.same("FINAL methods are no slots, so they clash with none", 0, forge(x, type, other));
        x.method(type, 3, 1, 1, 1);
        x.method(type, 3, 1, 2, 2);
        CHECK.same("other parameters", 0, forge(x, type));
        x.method(type, 3, 1, 1, 2);
        CHECK.same("two of the class itself", 5, forge(x, type));
    }

    private static void refusedSlots() {
        ProxyForge x = new ProxyForge();
        int type = base(x, 1, 0, 0);
        for (int m = 0; m < 24; m++) {
            x.method(type, m % 10, 1, 1 + m / 10, 0);
        }
        CHECK.same("24 slots", 0, forge(x, type));
        CHECK.same("slots", 24, x.slots());
        CHECK.same("the last", 28, x.slot(23));
        x.method(type, 9, 17, 3, 0);
        CHECK.same("a FINAL one more", 0, forge(x, type));
        x.method(type, 8, 1, 3, 0);
        CHECK.same("25 slots", 6, forge(x, type));
        x.method(type, 0, 1, 1, 1);
        CHECK.same("5 comes before 6", 5, forge(x, type));
        CHECK.same("the one before stays", 24, x.slots());
    }

    private static void firstRefusalCounts() {
        ProxyForge x = new ProxyForge();
        int closed = x.type(false, 2, 0, 0);
        int type = x.type(false, 1, 0, 0);
        int far = x.type(true, 0, 1, 0);
        CHECK.same("1 before 2 and 3", 1, forge(x, closed, 0));
        CHECK.same("2 before 3", 2, forge(x, type, 0));
        CHECK.same("2 before 4", 2, forge(x, type, far));
        x.method(type, 10, 1, 0, 0);
        x.method(type, 1, 1, 0, 1);
        x.method(type, 1, 1, 0, 2);
        CHECK.same("4 before 5", 4, forge(x, type, far));
        CHECK.same("5", 5, forge(x, type));
    }

    private static void orderOfClassesAndInterfaces() {
        ProxyForge x = new ProxyForge();
        int parent = base(x, 1, 0, 0);
        int type = base(x, 1, 0, parent);
        int[] face = new int[8];
        for (int i = 0; i < 8; i++) {
            face[i] = x.type(true, 1, 0, 0);
            x.method(face[i], i, 33, 0, 1);
        }
        int own = x.method(type, 9, 1, 0, 1);
        int above = x.method(parent, 8, 1, 0, 1);
        x.implement(type, face[3]);
        x.implement(type, face[1]);
        x.implement(face[3], face[5]);
        x.implement(face[5], face[0]);
        x.implement(parent, face[2]);
        x.implement(face[2], face[5]);
        x.implement(face[7], face[4]);
        x.implement(face[7], face[1]);
        int first = 6;
        CHECK.same("forge", 0, forge(x, type, face[6], face[7], face[4]));
        slots("classes, then interfaces one inside the other", x, own, above, first + 3, first + 5, first, first + 1,
                first + 2, first + 6, first + 7, first + 4);
    }

    private static void whichMethodsAreSlots() {
        ProxyForge x = new ProxyForge();
        int parent = base(x, 5, 1, 0);
        int type = base(x, 5, 0, parent);
        int face = x.type(true, 1, 1, 0);
        int hidden = x.method(parent, 0, 0, 0, 1);
        int open = x.method(parent, 1, 2, 0, 1);
        x.method(parent, 2, 9, 0, 1);
        x.method(parent, 3, 4, 0, 1);
        x.method(parent, 4, 17, 0, 1);
        x.method(face, 4, 33, 0, 1);
        int behindStatic = x.method(face, 2, 1, 0, 1);
        int behindPrivate = x.method(face, 3, 1, 0, 1);
        int behindHidden = x.method(face, 0, 1, 0, 1);
        int near = x.method(type, 5, 0, 0, 1);
        x.method(face, 1, 33, 0, 1);
        int other = x.method(face, 1, 33, 1, 1);
        CHECK.same("forge", 0, forge(x, type, face));
        slots("another package", x, near, open, behindStatic, behindPrivate, behindHidden, other);
        CHECK.same("forge", 0, forge(x, parent, face));
        slots("its own package", x, hidden, open, behindStatic, behindPrivate, other);
        int later = x.method(type, 4, 1, 0, 1);
        CHECK.same("forge", 0, forge(x, type));
        slots("the first one met counts", x, near, later, open);
    }

    private static void theOneBeforeStays() {
        ProxyForge x = new ProxyForge();
        int type = base(x, 1, 0, 0);
        x.method(type, 1, 1, 0, 1);
        forge(x, type);
        int size = x.size();
        x.change(20, 1);
        x.cut(size - 1);
        CHECK.same("refused", 3, forge(x, type, type));
        CHECK.same("size", size - 1, x.size());
        CHECK.same("byte", 1, x.byteAt(20));
        slots("refused", x, 5);
        CHECK.same("made anew", 0, forge(x, type));
        CHECK.same("size", size, x.size());
        CHECK.same("read", NONE, x.read());
        CHECK.same("of another class", 0, forge(x, 0));
        slots("of another class", x);
    }
}
