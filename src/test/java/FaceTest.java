import java.lang.management.ManagementFactory;
import java.lang.reflect.Member;
import java.lang.reflect.Method;
import java.lang.reflect.Modifier;
import java.util.ArrayList;
import java.util.List;
import java.util.Set;
import java.util.TreeSet;

/** The public face, what a run of the dearest calls makes, and the greatest files. */
public final class FaceTest {
    private static final Check CHECK = new Check();
    private static final int NONE = ProxyForge.NONE;
    private static final int CALLS = 480;
    // A run has room for 7.3 million fields and elements, of four bytes or more each.
    private static final long MOST_BYTES = 4 * 7_300_000;
    private static final Set<String> FACE = Set.of(
            "public static final int NONE", "public ProxyForge()",
            "public int type(boolean, int, int, int) throws IllegalArgumentException, IllegalStateException",
            "public void implement(int, int) throws IllegalArgumentException",
            "public int method(int, int, int, int, int) throws IllegalArgumentException, IllegalStateException",
            "public void throwing(int, int) throws IllegalArgumentException",
            "public boolean isSubtype(int, int)", "public boolean policy(int, int)",
            "public int forge(int, int, int, int) throws IllegalArgumentException",
            "public int slots()", "public int slot(int)",
            "public void answer(int, long) throws IllegalArgumentException",
            "public int call(int, long, long, long, long) throws IllegalArgumentException",
            "public long result()", "public int asked()", "public long given(int, int)", "public int size()",
            "public int byteAt(int)", "public boolean change(int, int)", "public boolean cut(int)", "public int read()");

    public static void main(String[] args) {
        members();
        room();
        greatestFile();
        CHECK.end();
    }

    private static void members() {
        CHECK.of("The public face; LANGUAGE.md, rule 1");
        Class<?> c = ProxyForge.class;
        CHECK.text("the class", "public final", Modifier.toString(c.getModifiers()));
        CHECK.yes("it extends nothing", c.getSuperclass() == Object.class && c.getInterfaces().length == 0);
        List<Member> members = new ArrayList<>();
        members.addAll(List.of(c.getDeclaredFields()));
        members.addAll(List.of(c.getDeclaredConstructors()));
        members.addAll(List.of(c.getDeclaredMethods()));
        Set<String> found = new TreeSet<>();
        Set<String> publicNames = new TreeSet<>();
        for (Member m : members) {
            if (!Modifier.isPrivate(m.getModifiers())) {
                found.add(told(m));
                publicNames.add(m.getName());
            }
        }
        CHECK.text("the face", new TreeSet<>(FACE).toString(), found.toString());
        noPublicNames(c, publicNames);
        for (Class<?> inside : c.getDeclaredClasses()) {
            int modifiers = inside.getModifiers();
            CHECK.yes(inside + " is static", Modifier.isStatic(modifiers));
            CHECK.no(inside + " is open", Modifier.isPublic(modifiers) || Modifier.isProtected(modifiers));
            noPublicNames(inside, publicNames);
        }
    }

    /** As the document writes it, but without its parameters' names. */
    private static String told(Member m) {
        return m.toString().replace("java.lang.", "").replace("ProxyForge.", "").replace(",", ", ");
    }

    private static void noPublicNames(Class<?> c, Set<String> publicNames) {
        for (Method m : c.getDeclaredMethods()) {
            boolean hidden = Modifier.isPrivate(m.getModifiers());
            CHECK.no(m + " is private and bears a public name", hidden && publicNames.contains(m.getName()));
        }
    }

    /** Many constructors and slots with long descriptors; everything that can be thrown. */
    private static Renewed great(Model y) {
        Renewed x = new Renewed();
        for (int t = 4; t < 20; t++) {
            int parent = t < 16 ? 1 : 0;
            CHECK.same("type", y.type(t > 16, 1, t % 4, parent), x.type(t > 16, 1, t % 4, parent));
        }
        for (int i = 0; i < 32; i++) {
            int parameters = Make.parameters(7, 7, 7, 8 + i % 16);
            int back = i < 16 ? 0 : 7 + (i - 16) % 2;
            int name = i < 16 ? 10 : (i - 16) % 10;
            CHECK.same("method", y.method(4, name, 1, parameters, back), x.method(4, name, 1, parameters, back));
        }
        for (int i = 0; i < 24; i++) {
            int parameters = i < 8 ? Make.parameters(7, 6, 7, 8 + i) : Make.parameters(7, 5, 5, 4 + i - 8);
            int name = i < 8 ? i : 10;
            CHECK.same("method", y.method(4, name, 1, parameters, 0), x.method(4, name, 1, parameters, 0));
        }
        for (int m = 4; m < 60; m++) {
            for (int thrown : new int[] {3, 2, 4 + m % 12}) {
                y.throwing(m, thrown);
                x.throwing(m, thrown);
            }
        }
        return x;
    }

    /** All slots with one policy, at last all but one DISPATCHED: so the pool has the most entries. */
    private static void greatestFile() {
        CHECK.of("THE FILE, as great as can be");
        for (int policy = 0; policy <= 4; policy++) {
            Model y = new Model();
            Renewed x = great(y);
            for (int name = 0; name < 10; name++) {
                int kind = policy < 4 ? policy : name == 9 ? 0 : 3;
                y.policy(name, kind);
                x.policy(name, kind);
            }
            CHECK.same("forge", 0, y.forge(4, 17, 18, 19));
            CHECK.same("forge", 0, x.forge(4, 17, 18, 19));
            CHECK.same("slots", 24, x.slots());
            CHECK.same("size", y.size(), x.size());
            CHECK.yes("it is great", x.size() > 9000);
            for (int k = 0; k < y.size(); k++) {
                CHECK.same("byteAt(" + k + ")", y.byteAt(k), x.byteAt(k));
            }
            CHECK.same("read", NONE, x.read());
            int entries = (x.byteAt(8) << 8) + x.byteAt(9) - 1;
            CHECK.yes("entries are more than a byte can count", policy < 4 || entries > 260);
            System.out.println("policy " + policy + ": " + x.size() + " bytes, " + entries + " entries");
        }
    }

    /** 24 slots, told by few calls, so that the dearest ones fill what is left of the 512. */
    private static ProxyForge wide() {
        ProxyForge x = new ProxyForge();
        x.type(false, 1, 0, 0);
        x.method(4, 10, 1, 0, 0);
        for (int i = 0; i < 24; i++) {
            x.method(4, i % 10, 1, Make.parameters(7, 7, 1, 1 + i / 10), 7);
        }
        return x;
    }

    private static long allocated() {
        com.sun.management.ThreadMXBean threads = (com.sun.management.ThreadMXBean) ManagementFactory.getThreadMXBean();
        return threads.getThreadAllocatedBytes(Thread.currentThread().getId());
    }

    private static void room() {
        CHECK.of("All calls of one run live in one room");
        wide().forge(4, NONE, NONE, NONE);
        allocated();
        long before = allocated();
        ProxyForge made = new ProxyForge();
        long making = allocated() - before;
        ProxyForge x = wide();
        before = allocated();
        for (int i = 0; i < CALLS; i++) {
            x.forge(4, NONE, NONE, NONE);
        }
        long forging = allocated() - before;
        ProxyForge y = wide();
        y.forge(4, NONE, NONE, NONE);
        before = allocated();
        for (int i = 0; i < CALLS / 2; i++) {
            y.read();
            y.call(i % 24, i, i, i, i);
        }
        long reading = allocated() - before;
        System.out.println("bytes made: " + making + " by new, " + forging + " by forge, " + reading + " by read, call");
        CHECK.same("nothing yet", 0, made.size());
        CHECK.yes("new makes little", making < MOST_BYTES);
        CHECK.yes("forge makes little", forging < MOST_BYTES);
        CHECK.yes("read and call make little", reading < MOST_BYTES);
    }
}
