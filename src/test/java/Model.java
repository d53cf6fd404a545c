import java.util.ArrayList;
import java.util.HashSet;
import java.util.LinkedHashMap;
import java.util.LinkedHashSet;
import java.util.List;
import java.util.Map;
import java.util.Set;
import java.util.function.Predicate;

/** The document once more, in another way (texts, maps, a search for subtypes), to compare random runs with. */
final class Model {
    static final int NONE = -1;

    static final class Type {
        int number;
        boolean face;
        int flags;
        int pack;
        Type parent;
        List<Type> faces = new ArrayList<>();

        String name() {
            return switch (number) {
                case 0 -> "java/lang/Object";
                case 1 -> "java/lang/Throwable";
                case 2 -> "java/lang/Error";
                case 3 -> "java/lang/RuntimeException";
                default -> "p" + pack + "/T" + number;
            };
        }

        boolean isOf(Type of) {
            if (this == of || (face && of.number == 0) || (parent != null && parent.isOf(of))) {
                return true;
            }
            return faces.stream().anyMatch(f -> f.isOf(of));
        }
    }

    static final class Method {
        int number;
        Type type;
        int name;
        int flags;
        List<Integer> kinds;
        int parameters;
        int returned;
        List<Type> thrown = new ArrayList<>();

        String signature() {
            return name + " " + kinds + " " + returned;
        }

        String text() {
            return name == 10 ? "<init>" : "m" + name;
        }
    }

    private static final class Slot {
        Method method;
        int policy;
        List<Type> thrown;
        Type special;
    }

    private final List<Type> types = new ArrayList<>();
    private final List<Method> methods = new ArrayList<>();
    private final int[] policies = new int[10];
    private List<Slot> slots = new ArrayList<>();
    private byte[] file = new byte[0];
    private int answerKind;
    private long answerValue;
    private long result;
    private int asked = NONE;
    private List<long[]> given = List.of();

    Model() {
        for (int i = 0; i < 4; i++) {
            Type t = new Type();
            t.number = i;
            t.flags = 1;
            t.pack = 4;
            t.parent = i == 0 ? null : types.get(i == 1 ? 0 : 1);
            types.add(t);
            addMethod(t, 10, 1, 0, 0);
        }
    }

    private Type typeAt(long number) {
        return number >= 0 && number < types.size() ? types.get((int) number) : null;
    }

    private static void demand(boolean right) {
        if (!right) {
            throw new IllegalArgumentException();
        }
    }

    int type(boolean face, int flags, int pack, int parent) {
        Type above = typeAt(parent);
        demand(Set.of(0, 1, 2, 3, 4, 5).contains(flags) && (!face || flags < 2) && Set.of(0, 1, 2, 3).contains(pack));
        demand(above != null && !above.face && (above.flags & 2) == 0 && (!face || parent == 0));
        if (types.size() == 20) {
            throw new IllegalStateException();
        }
        Type t = new Type();
        t.number = types.size();
        t.face = face;
        t.flags = flags;
        t.pack = pack;
        t.parent = above;
        types.add(t);
        return t.number;
    }

    void implement(int type, int face) {
        Type t = typeAt(type);
        Type f = typeAt(face);
        demand(t != null && type > 3 && f != null && f.face);
        demand(!t.faces.contains(f) && t.faces.size() != 4 && !f.isOf(t));
        t.faces.add(f);
    }

    private Method addMethod(Type t, int name, int flags, int parameters, int returned) {
        Method m = new Method();
        m.number = methods.size();
        m.type = t;
        m.name = name;
        m.flags = flags;
        m.parameters = parameters;
        m.kinds = kinds(parameters);
        m.returned = returned;
        methods.add(m);
        return m;
    }

    private static List<Integer> kinds(int parameters) {
        List<Integer> kinds = new ArrayList<>();
        for (int rest = parameters; rest % 32 != 0; rest /= 32) {
            kinds.add(rest % 32);
        }
        return kinds;
    }

    int method(int type, int name, int flags, int parameters, int returned) {
        Type t = typeAt(type);
        demand(t != null && type > 3 && name >= 0 && name <= 10 && flags >= 0 && flags < 64);
        demand(parameters >= 0 && parameters < 32 * 32 * 32 * 32 && returned >= 0 && returned < 4 + types.size());
        List<Integer> kinds = kinds(parameters);
        demand(kinds.stream().allMatch(k -> k < 4 + types.size()));
        int again = 0;
        for (int i = kinds.size() - 1; i >= 0; i--) {
            again = again * 32 + kinds.get(i);
        }
        demand(again == parameters);
        demand(Set.of(0, 1, 2, 4).contains(flags % 8));
        if (name == 10) {
            demand(!t.face && flags < 8 && returned == 0);
        }
        if (flags >= 32) {
            demand((flags & 28) == 0 && (t.face || (t.flags & 4) != 0));
        }
        if (t.face) {
            demand(flags == 1 || flags == 33);
        }
        demand(methods.stream().noneMatch(m -> m.type == t && m.name == name && m.parameters == parameters
                && m.returned == returned));
        if (methods.size() == 60) {
            throw new IllegalStateException();
        }
        return addMethod(t, name, flags, parameters, returned).number;
    }

    void throwing(int method, int type) {
        Type t = typeAt(type);
        demand(method > 3 && method < methods.size() && t != null && t.isOf(types.get(1)));
        List<Type> thrown = methods.get(method).thrown;
        demand(!thrown.contains(t) && thrown.size() < 3);
        thrown.add(t);
    }

    boolean isSubtype(int type, int of) {
        return typeAt(type) != null && typeAt(of) != null && typeAt(type).isOf(typeAt(of));
    }

    boolean policy(int name, int kind) {
        boolean right = name >= 0 && name < 10 && kind >= 0 && kind < 4;
        if (right) {
            policies[name] = kind;
        }
        return right;
    }

    private void meet(Type face, Set<Type> order) {
        if (order.add(face)) {
            face.faces.forEach(f -> meet(f, order));
        }
    }

    int forge(int type, int... more) {
        demand(typeAt(type) != null);
        List<Type> faces = new ArrayList<>();
        boolean ended = false;
        for (int face : more) {
            demand(face == NONE || (!ended && typeAt(face) != null));
            ended |= face == NONE;
            if (face != NONE) {
                faces.add(typeAt(face));
            }
        }
        Type c = typeAt(type);
        if (c.face || (c.flags & 2) != 0) {
            return 1;
        }
        if (methods.stream().noneMatch(constructorOf(c))) {
            return 2;
        }
        if (faces.stream().anyMatch(f -> !f.face) || new HashSet<>(faces).size() < faces.size()) {
            return 3;
        }
        if (faces.stream().anyMatch(f -> (f.flags & 1) == 0 && f.pack != c.pack)) {
            return 4;
        }
        Set<Type> order = new LinkedHashSet<>();
        for (Type t = c; t != null; t = t.parent) {
            order.add(t);
        }
        for (Type t = c; t != null; t = t.parent) {
            t.faces.forEach(f -> meet(f, order));
        }
        Set<Type> byClass = new HashSet<>(order);
        faces.forEach(f -> meet(f, order));
        Map<String, Method> counted = new LinkedHashMap<>();
        for (Type t : order) {
            for (Method m : methods) {
                boolean foreign = m.flags % 8 == 0 && t.pack != c.pack;
                if (m.type == t && m.name != 10 && (m.flags & 12) == 0 && !foreign) {
                    counted.putIfAbsent(m.signature(), m);
                }
            }
        }
        List<Slot> found = new ArrayList<>();
        for (Method m : counted.values()) {
            if ((m.flags & 16) == 0) {
                Slot s = new Slot();
                s.method = m;
                s.policy = policies[m.name];
                s.thrown = List.copyOf(m.thrown);
                s.special = byClass.contains(m.type) ? null
                        : faces.stream().filter(f -> f.isOf(m.type)).findFirst().get();
                found.add(s);
            }
        }
        for (Slot a : found) {
            for (Slot b : found) {
                if (a.method.name == b.method.name && a.method.kinds.equals(b.method.kinds)
                        && !agree(a.method.returned, b.method.returned)) {
                    return 5;
                }
            }
        }
        if (found.size() > 24) {
            return 6;
        }
        slots = found;
        file = new ModelFile(types).write(c, faces, methods.stream().filter(constructorOf(c)).toList(), found.stream()
                .map(s -> new ModelFile.Part(s.method, s.policy, s.thrown, s.special)).toList());
        return 0;
    }

    private static Predicate<Method> constructorOf(Type c) {
        return m -> m.type == c && m.name == 10 && (m.flags & 4) == 0;
    }

    private boolean agree(int a, int b) {
        return a == b || (a > 3 && b > 3 && (isSubtype(a - 4, b - 4) || isSubtype(b - 4, a - 4)));
    }

    int slots() {
        return slots.size();
    }

    int slot(int k) {
        return k >= 0 && k < slots.size() ? slots.get(k).method.number : NONE;
    }

    void answer(int kind, long value) {
        demand(kind >= 0 && kind <= 5);
        demand(kind < 4 || typeAt(value) != null);
        demand(kind < 5 || typeAt(value).isOf(types.get(1)));
        answerKind = kind;
        answerValue = kind == 1 ? (int) value : kind == 3 ? value & 1 : value;
    }

    int call(int slot, long... arguments) {
        demand(slot >= 0 && slot < slots.size());
        Slot s = slots.get(slot);
        long[] outcome = outcome(slot, s, arguments);
        result = outcome[1];
        return (int) outcome[0];
    }

    private long[] outcome(int k, Slot s, long[] arguments) {
        if (s.policy != 2) {
            asked = k;
        }
        if (s.policy == 0) {
            given = new ArrayList<>();
            for (int i = 0; i < s.method.kinds.size(); i++) {
                long a = arguments[i];
                given.add(switch (s.method.kinds.get(i)) {
                    case 1 -> new long[] {1, (int) a};
                    case 2 -> new long[] {2, a};
                    case 3 -> new long[] {3, a & 1};
                    default -> new long[] {typeAt(a) == null ? 0 : 4 + a, 0};
                });
            }
        }
        if (s.policy != 2 && answerKind == 5) {
            Type t = typeAt(answerValue);
            boolean declared = t.isOf(types.get(2)) || t.isOf(types.get(3)) || s.thrown.stream().anyMatch(t::isOf);
            return new long[] {s.policy == 0 && !declared ? 4 : 1, answerValue};
        }
        if (s.policy == 0 || s.policy == 1) {
            return unboxed(s.method.returned);
        }
        if (s.policy == 3) {
            if (answerKind == 0) {
                return new long[] {2, 0};
            }
            if (answerKind != 4 || !typeAt(answerValue).isOf(s.method.type)) {
                return new long[] {3, 0};
            }
        }
        if ((s.method.flags & 32) != 0) {
            return new long[] {5, 0};
        }
        return new long[] {0, s.method.returned > 3 ? NONE : 0};
    }

    private long[] unboxed(int returned) {
        if (returned == 0) {
            return new long[] {0, 0};
        }
        if (returned < 4) {
            return answerKind == 0 ? new long[] {2, 0}
                    : answerKind == returned ? new long[] {0, answerValue} : new long[] {3, 0};
        }
        return switch (answerKind) {
            case 0 -> new long[] {0, NONE};
            case 4 -> typeAt(answerValue).isOf(typeAt(returned - 4)) ? new long[] {0, answerValue} : new long[] {3, 0};
            default -> returned == 4 ? new long[] {0, -1 - answerKind} : new long[] {3, 0};
        };
    }

    long result() {
        return result;
    }

    int asked() {
        return asked;
    }

    long given(int i, int what) {
        return i >= 0 && i < given.size() && (what == 0 || what == 1) ? given.get(i)[what] : NONE;
    }

    int size() {
        return file.length;
    }

    int byteAt(int k) {
        return k >= 0 && k < file.length ? file[k] & 255 : NONE;
    }

    boolean change(int k, int b) {
        if (k < 0 || k >= file.length) {
            return false;
        }
        file[k] = (byte) b;
        return true;
    }

    boolean cut(int n) {
        if (n < 0 || n > file.length) {
            return false;
        }
        file = java.util.Arrays.copyOf(file, n);
        return true;
    }

    int read() {
        return new ModelReader(file).read();
    }
}
