import java.io.IOException;
import java.lang.reflect.Constructor;
import java.lang.reflect.InvocationTargetException;
import java.lang.reflect.Method;
import java.lang.reflect.UndeclaredThrowableException;
import java.util.ArrayList;
import java.util.HashMap;
import java.util.IdentityHashMap;
import java.util.List;
import java.util.Map;
import java.util.Random;

/** Promises 8 and 11 to 17: the JVM itself verifies the files, and what it does when it runs them is what call tells. */
public final class LoadedProxyTest {
    private static final Check CHECK = new Check();
    private static final int RUNS = 600;
    private static final int USES = 8;
    private static final String[] FIRST_NAMES =
            {"java/lang/Object", "java/lang/Throwable", "java/lang/Error", "java/lang/RuntimeException"};

    private record Told(int type, int name, int flags, int[] kinds, int returned) { }

    /** Classes by the bytes that were put there. */
    private static final class Loader extends ClassLoader {
        private final Map<String, byte[]> files = new HashMap<>();

        Loader() {
            super(LoadedProxyTest.class.getClassLoader());
        }

        @Override
        protected Class<?> findClass(String name) throws ClassNotFoundException {
            byte[] file = files.get(name.replace('.', '/'));
            if (file == null) {
                throw new ClassNotFoundException(name);
            }
            return defineClass(name, file, 0, file.length);
        }

        Class<?> load(String slashed) throws ClassNotFoundException {
            return Class.forName(slashed.replace('/', '.'), true, this);
        }
    }

    private final Random random;
    private final String label;
    // The JVM lets no class call a protected method of another package's object: such runs have one package.
    private final boolean mixed;
    private final Renewed x = new Renewed();
    private final List<String> names = new ArrayList<>(List.of(FIRST_NAMES));
    private final List<Boolean> isFace = new ArrayList<>(List.of(false, false, false, false));
    private final List<Integer> parents = new ArrayList<>(List.of(-1, 0, 1, 1));
    private final List<List<Integer>> faces = new ArrayList<>();
    private final List<Told> methods = new ArrayList<>();
    private final Loader loader = new Loader();
    private final Object[] objects = new Object[20];
    private final Map<Object, Integer> numbers = new IdentityHashMap<>();
    private Object answer;
    private Throwable thrown;
    private int asked = -1;
    private Object[] given;

    private LoadedProxyTest(int run) {
        random = new Random(run);
        label = "run " + run + ": ";
        mixed = run % 2 == 0;
        for (int i = 0; i < 4; i++) {
            faces.add(new ArrayList<>());
            methods.add(new Told(i, 10, 1, new int[0], 0));
        }
    }

    public static void main(String[] args) throws Exception {
        int[] outcomes = new int[6];
        for (int run = 0; run < RUNS; run++) {
            new LoadedProxyTest(run).go(outcomes);
        }
        System.out.println("outcomes 0 .. 5: " + java.util.Arrays.toString(outcomes));
        for (int outcome = 0; outcome < 6; outcome++) {
            CHECK.yes("outcome " + outcome + " at times", outcomes[outcome] > 0);
        }
        CHECK.end();
    }

    private int below(int n) {
        return random.nextInt(n);
    }

    private void go(int[] outcomes) throws Exception {
        for (int n = 3 + below(7); n > 0; n--) {
            makeType();
        }
        for (int n = 4 + below(40); n > 0; n--) {
            makeMethod();
        }
        for (int name = 0; name < 10; name++) {
            x.policy(name, below(4));
        }
        writeTypes();
        makeObjects();
        for (int i = 0; i < 6; i++) {
            int type = below(names.size());
            int first = below(2) == 0 ? -1 : 4 + below(names.size() - 4);
            int second = first == -1 || below(2) == 0 ? -1 : 4 + below(names.size() - 4);
            if (x.forge(type, first, second, -1) == 0) {
                load(type, outcomes);
                return;
            }
        }
    }

    private void makeType() {
        boolean face = below(3) == 0;
        int parent = face ? 0 : below(names.size());
        while (isFace.get(parent)) {
            parent = below(names.size());
        }
        int pack = mixed ? below(2) : 0;
        int type = x.type(face, face ? 1 : 5, pack, parent);
        names.add("p" + pack + "/T" + type);
        isFace.add(face);
        parents.add(parent);
        faces.add(new ArrayList<>());
        for (int f = 4; f < type; f++) {
            if (isFace.get(f) && below(3) == 0 && faces.get(type).size() < 4) {
                x.implement(type, f);
                faces.get(type).add(f);
            }
        }
        if (!face) {
            told(type, 10, 1, new int[0], 0);
        }
    }

    /** No two are alike in all of a run, as the JVM would choose by overriding where call looks at the slot alone. */
    private void makeMethod() {
        int type = 4 + below(names.size() - 4);
        int[] kinds = new int[below(5)];
        for (int i = 0; i < kinds.length; i++) {
            kinds[i] = anyKind();
        }
        boolean face = isFace.get(type);
        boolean constructor = !face && below(8) == 0;
        int[] choice = constructor ? new int[] {0, 1, 2, 4} : face ? new int[] {1, 33}
                : mixed ? new int[] {0, 1, 4, 9, 17, 32, 33} : new int[] {0, 1, 2, 4, 9, 17, 32, 33, 34};
        int name = constructor ? 10 : below(10);
        int returned = constructor ? 0 : below(4) == 0 ? 0 : anyKind();
        for (Told m : methods) {
            boolean alike = m.name == name && java.util.Arrays.equals(m.kinds, kinds);
            if (alike && (m.type == type || !constructor)) {
                return;
            }
        }
        int m = told(type, name, choice[below(choice.length)], kinds, returned);
        for (int i = 1; i < names.size(); i++) {
            if (below(6) == 0 && x.isSubtype(i, 1) && (below(4) == 0 || i > 1)) {
                try {
                    x.throwing(m, i);
                } catch (IllegalArgumentException e) {
                    break;
                }
            }
        }
    }

    private int anyKind() {
        return below(2) == 0 ? 1 + below(3) : 4 + below(names.size());
    }

    private int told(int type, int name, int flags, int[] kinds, int returned) {
        int parameters = 0;
        for (int i = kinds.length - 1; i >= 0; i--) {
            parameters = parameters * 32 + kinds[i];
        }
        methods.add(new Told(type, name, flags, kinds, returned));
        return x.method(type, name, flags, parameters, returned);
    }

    private String letters(int kind) {
        return switch (kind) {
            case 0 -> "V";
            case 1 -> "I";
            case 2 -> "J";
            case 3 -> "Z";
            default -> "L" + names.get(kind - 4) + ";";
        };
    }

    private String descriptor(Told m) {
        StringBuilder s = new StringBuilder("(");
        for (int kind : m.kinds) {
            s.append(letters(kind));
        }
        return s.append(")").append(letters(m.returned)).toString();
    }

    private static int jvmFlags(int flags) {
        return new int[] {0, 1, 4, 0, 2}[flags & 7] | (flags & 24) | ((flags & 32) != 0 ? 0x400 : 0);
    }

    private void writeTypes() throws IOException {
        for (int t = 4; t < names.size(); t++) {
            int access = isFace.get(t) ? 0x601 : 0x421;
            String[] faceNames = faces.get(t).stream().map(names::get).toArray(String[]::new);
            TypeFile file = new TypeFile(access, names.get(t), names.get(parents.get(t)), faceNames);
            for (Told m : methods) {
                if (m.type == t && m.name == 10) {
                    file.constructor(jvmFlags(m.flags), descriptor(m));
                } else if (m.type == t) {
                    file.returning(jvmFlags(m.flags), "m" + m.name, descriptor(m));
                }
            }
            loader.files.put(names.get(t), file.bytes());
        }
    }

    /** The types may be abstract: their objects are of hidden classes below them. */
    private void makeObjects() throws Exception {
        for (int t = 0; t < names.size(); t++) {
            String hidden = "hidden/H" + t;
            TypeFile file = isFace.get(t) ? new TypeFile(0x21, hidden, "java/lang/Object", names.get(t))
                    : new TypeFile(0x21, hidden, names.get(t));
            file.constructor(1, "()V");
            loader.files.put(hidden, file.bytes());
            objects[t] = loader.load(hidden).getConstructor().newInstance();
            numbers.put(objects[t], t);
        }
    }

    private void load(int type, int[] outcomes) throws Exception {
        byte[] file = Make.bytes(x);
        String name = type < 4 ? "px/P" : names.get(type).substring(0, 2) + "/P";
        loader.files.put(name, file);
        Class<?> made;
        try {
            made = loader.load(name);
        } catch (LinkageError e) {
            CHECK.same(label + "the JVM refuses the proxy by " + e, 0, 1);
            return;
        }
        int constructors = 0;
        for (Told m : methods) {
            constructors += m.type == type && m.name == 10 && (m.flags & 4) == 0 ? 1 : 0;
        }
        CHECK.same(label + "constructors", constructors, made.getDeclaredConstructors().length);
        CHECK.same(label + "methods", x.slots(), made.getDeclaredMethods().length);
        for (Constructor<?> c : made.getDeclaredConstructors()) {
            c.setAccessible(true);
            useAll(c.newInstance(zeros(c.getParameterTypes())), outcomes);
        }
    }

    private Object[] zeros(Class<?>[] parameters) {
        Object[] values = new Object[parameters.length];
        for (int i = 0; i < values.length; i++) {
            values[i] = parameters[i] == int.class ? (Object) 0 : parameters[i] == long.class ? (Object) 0L
                    : parameters[i] == boolean.class ? (Object) false : null;
        }
        values[0] = new Recorder();
        return values;
    }

    private void useAll(Object proxy, int[] outcomes) throws Exception {
        for (int k = 0; k < x.slots(); k++) {
            Told m = methods.get(x.slot(k));
            Method real = null;
            for (Method candidate : proxy.getClass().getDeclaredMethods()) {
                if (candidate.getName().equals("m" + m.name) && sameParameters(candidate.getParameterTypes(), m.kinds)) {
                    real = candidate;
                }
            }
            if (real == null) {
                CHECK.same(label + "no method for slot " + k, 0, 1);
                return;
            }
            real.setAccessible(true);
            for (int i = 0; i < USES && x.room() > 2; i++) {
                changeAnswer();
                use(proxy, k, m, real, outcomes);
            }
        }
    }

    private boolean sameParameters(Class<?>[] parameters, int[] kinds) throws ClassNotFoundException {
        if (parameters.length != kinds.length) {
            return false;
        }
        for (int i = 0; i < kinds.length; i++) {
            Class<?> due = kinds[i] == 1 ? int.class : kinds[i] == 2 ? long.class : kinds[i] == 3 ? boolean.class
                    : loader.load(names.get(kinds[i] - 4));
            if (parameters[i] != due) {
                return false;
            }
        }
        return true;
    }

    private void changeAnswer() {
        int kind = below(6);
        long value = kind < 4 ? random.nextLong() : below(names.size());
        while (kind == 5 && !x.isSubtype((int) value, 1)) {
            value = below(names.size());
        }
        x.answer(kind, value);
        thrown = kind == 5 ? (Throwable) objects[(int) value] : null;
        answer = switch (kind) {
            case 1 -> (Object) (int) value;
            case 2 -> (Object) value;
            case 3 -> (Object) ((value & 1) == 1);
            case 4 -> objects[(int) value];
            default -> null;
        };
    }

    private void use(Object proxy, int k, Told m, Method real, int[] outcomes) throws Exception {
        long[] told = new long[4];
        Object[] arguments = new Object[m.kinds.length];
        for (int i = 0; i < m.kinds.length; i++) {
            told[i] = random.nextLong();
            arguments[i] = switch (m.kinds[i]) {
                case 1 -> (Object) (int) told[i];
                case 2 -> (Object) told[i];
                case 3 -> (Object) ((told[i] & 1) == 1);
                default -> null;
            };
            if (m.kinds[i] > 3 && below(3) != 0) {
                told[i] = below(names.size());
                // Reflection asks for a subtype, where call doesn't.
                arguments[i] = x.isSubtype((int) told[i], m.kinds[i] - 4) ? objects[(int) told[i]] : null;
                told[i] = arguments[i] == null ? -1 : told[i];
            }
        }
        long[] due = new long[2];
        try {
            Object back = real.invoke(proxy, arguments);
            due[1] = number(back, m.returned);
        } catch (InvocationTargetException e) {
            explain(e.getCause(), due);
        }
        outcomes[(int) due[0]]++;
        CHECK.same(label + "call(" + k + ") " + m, due[0], x.call(k, told[0], told[1], told[2], told[3]));
        CHECK.same(label + "result of " + k, due[1], x.result());
        CHECK.same(label + "asked", asked, x.asked());
        for (int i = 0; given != null && i < 4; i++) {
            Object box = i < given.length ? given[i] : this;
            CHECK.same(label + "given kind", box == this ? -1 : box == null ? 0 : boxKind(box), x.given(i, 0));
            CHECK.same(label + "given number", box == this ? -1 : box == null ? 0 : boxNumber(box), x.given(i, 1));
        }
    }

    private long number(Object back, int returned) {
        if (returned == 0) {
            return 0;
        }
        if (returned < 4) {
            return boxNumber(back);
        }
        return back == null ? -1 : numbers.containsKey(back) ? numbers.get(back) : -1 - boxKind(back);
    }

    private int boxKind(Object box) {
        return box instanceof Integer ? 1 : box instanceof Long ? 2 : box instanceof Boolean ? 3 : 4 + numbers.get(box);
    }

    private static long boxNumber(Object box) {
        return box instanceof Number n ? n.longValue() : box instanceof Boolean b && b ? 1 : 0;
    }

    private void explain(Throwable e, long[] due) {
        if (numbers.containsKey(e)) {
            due[0] = 1;
            due[1] = numbers.get(e);
        } else if (e instanceof UndeclaredThrowableException u) {
            due[0] = 4;
            due[1] = numbers.get(u.getUndeclaredThrowable());
        } else {
            due[0] = e instanceof NullPointerException ? 2 : e instanceof ClassCastException ? 3
                    : e instanceof AbstractMethodError ? 5 : -1;
            if (due[0] < 0) {
                throw new IllegalStateException(label, e);
            }
        }
    }

    private final class Recorder implements px.Callback {
        @Override
        public Object on(Object proxy, int slot, Object[] arguments) {
            given = arguments == null ? new Object[0] : arguments;
            return reply(slot);
        }

        @Override
        public Object fixed(int slot) {
            return reply(slot);
        }

        @Override
        public Object to(int slot) {
            return reply(slot);
        }

        private Object reply(int slot) {
            asked = slot;
            if (thrown != null) {
                LoadedProxyTest.<RuntimeException>raise(thrown);
            }
            return answer;
        }
    }

    @SuppressWarnings("unchecked")
    private static <E extends Throwable> void raise(Throwable e) throws E {
        throw (E) e;
    }
}
