import java.io.ByteArrayOutputStream;
import java.util.ArrayList;
import java.util.LinkedHashMap;
import java.util.List;
import java.util.Map;

/** The file of a proxy, made of rows of numbers and of a map from an entry's content to its number. */
final class ModelFile {
    record Part(Model.Method method, int policy, List<Model.Type> thrown, Model.Type special) { }

    private record Entry(int tag, Object first, Object second) { }

    /** Bytes in the making. */
    private static final class Row {
        final ByteArrayOutputStream bytes = new ByteArrayOutputStream();

        Row u1(int... numbers) {
            for (int n : numbers) {
                bytes.write(n);
            }
            return this;
        }

        Row u2(int... numbers) {
            for (int n : numbers) {
                u1(n >> 8, n);
            }
            return this;
        }

        Row u4(int n) {
            return u2(n >> 16, n & 65535);
        }

        Row add(Row other) {
            bytes.writeBytes(other.bytes.toByteArray());
            return this;
        }

        int size() {
            return bytes.size();
        }
    }

    private static final String OBJECT = "java/lang/Object";
    private static final String CALLBACK = "px/Callback";
    private static final String WRAPPER = "java/lang/reflect/UndeclaredThrowableException";
    private static final String[] BOX = {null, "java/lang/Integer", "java/lang/Long", "java/lang/Boolean"};
    private static final String[] UNBOX = {null, "intValue", "longValue", "booleanValue"};
    private static final String[] LETTER = {"V", "I", "J", "Z"};

    private final List<Model.Type> types;
    private final Map<Entry, Integer> pool = new LinkedHashMap<>();
    private String proxy;
    private Model.Type base;

    ModelFile(List<Model.Type> types) {
        this.types = types;
    }

    byte[] write(Model.Type c, List<Model.Type> faces, List<Model.Method> constructors, List<Part> slots) {
        base = c;
        proxy = c.pack == 4 ? "px/P" : "p" + c.pack + "/P";
        Row row = new Row().u2(49, classEntry(proxy), classEntry(c.name()), faces.size());
        for (Model.Type face : faces) {
            row.u2(classEntry(face.name()));
        }
        row.u2(1, 2, text("cb"), text("Lpx/Callback;"), 0, constructors.size() + slots.size());
        for (Model.Method m : constructors) {
            constructor(row, m);
        }
        for (int k = 0; k < slots.size(); k++) {
            slot(row, k, slots.get(k));
        }
        row.u2(0);
        Row file = new Row().u1(202, 254, 186, 190).u2(0, 52, pool.size() + 1);
        pool.keySet().forEach(e -> entryBytes(file, e));
        byte[] bytes = file.add(row).bytes.toByteArray();
        return bytes;
    }

    private void entryBytes(Row file, Entry e) {
        file.u1(e.tag);
        if (e.tag == 1) {
            String letters = (String) e.first;
            file.u2(letters.length());
            letters.chars().forEach(file::u1);
        } else {
            file.u2((Integer) e.first);
            if (e.second != null) {
                file.u2((Integer) e.second);
            }
        }
    }

    private int entry(int tag, Object first, Object second) {
        return pool.computeIfAbsent(new Entry(tag, first, second), e -> pool.size() + 1);
    }

    private int text(String letters) {
        return entry(1, letters, null);
    }

    private int classEntry(String name) {
        return entry(7, text(name), null);
    }

    private int member(int tag, String owner, String name, String descriptor) {
        int c = classEntry(owner);
        int n = text(name);
        int d = text(descriptor);
        int both = entry(12, n, d);
        return entry(tag, c, both);
    }

    private String letters(int kind) {
        return kind < 4 ? LETTER[kind] : "L" + types.get(kind - 4).name() + ";";
    }

    private String descriptor(String before, Model.Method m) {
        StringBuilder s = new StringBuilder("(").append(before);
        m.kinds.forEach(k -> s.append(letters(k)));
        return s.append(")").append(letters(m.returned)).toString();
    }

    private static int width(Model.Method m) {
        return m.kinds.stream().mapToInt(k -> k == 2 ? 2 : 1).sum();
    }

    private static int access(Model.Method m) {
        return new int[] {0, 1, 4}[m.flags & 3];
    }

    private static void load(Row code, Model.Method m, int local) {
        for (int kind : m.kinds) {
            code.u1(loading(kind), local);
            local += kind == 2 ? 2 : 1;
        }
    }

    private static int loading(int kind) {
        return kind == 2 ? 22 : kind > 3 ? 25 : 21;
    }

    private static void push(Row code, int n) {
        if (n <= 5) {
            code.u1(3 + n);
        } else {
            code.u1(16, n);
        }
    }

    private static void leave(Row code, int kind) {
        code.u1(kind == 0 ? 177 : kind == 2 ? 173 : kind > 3 ? 176 : 172);
    }

    private void constructor(Row row, Model.Method m) {
        row.u2(access(m), text("<init>"), text(descriptor("Lpx/Callback;", m)), 1, text("Code"));
        Row code = new Row().u1(42, 43, 181).u2(member(9, proxy, "cb", "Lpx/Callback;")).u1(42);
        load(code, m, 2);
        code.u1(183).u2(member(10, base.name(), "<init>", descriptor("", m))).u1(177);
        row.u4(12 + code.size()).u2(Math.max(2, 1 + width(m)), 2 + width(m)).u4(code.size()).add(code).u2(0, 0);
    }

    private void slot(Row row, int k, Part p) {
        Model.Method m = p.method;
        boolean throwing = !p.thrown.isEmpty();
        row.u2(access(m) + 16, text(m.text()), text(descriptor("", m)), throwing ? 2 : 1, text("Code"));
        boolean guarded = p.policy == 0 && p.thrown.stream().noneMatch(t -> t.number == 1);
        Row code = new Row();
        instructions(code, k, p);
        int h = code.size();
        int behind = 1 + width(m);
        if (guarded) {
            code.u1(191, 58, behind, 187).u2(classEntry(WRAPPER)).u1(89, 25, behind, 183);
            code.u2(member(10, WRAPPER, "<init>", "(Ljava/lang/Throwable;)V")).u1(191);
        }
        Row rest = new Row();
        if (guarded) {
            List<String> caught = new ArrayList<>(List.of("java/lang/Error", "java/lang/RuntimeException"));
            p.thrown.forEach(t -> caught.add(t.name()));
            rest.u2(caught.size() + 1);
            caught.forEach(c -> rest.u2(0, h, h, classEntry(c)));
            rest.u2(0, h, h + 1, classEntry("java/lang/Throwable"));
            rest.u2(1, text("StackMapTable"));
            int throwable = classEntry("java/lang/Throwable");
            Row frames = new Row().u2(2);
            if (h > 63) {
                frames.u1(247).u2(h);
            } else {
                frames.u1(64 + h);
            }
            frames.u1(7).u2(throwable).u1(64, 7).u2(throwable);
            rest.u4(frames.size()).add(frames);
        } else {
            rest.u2(0, 0);
        }
        row.u4(8 + code.size() + rest.size()).u2(greatestDepth(p), guarded ? behind + 1 : behind);
        row.u4(code.size()).add(code).add(rest);
        if (throwing) {
            row.u2(text("Exceptions")).u4(2 + 2 * p.thrown.size()).u2(p.thrown.size());
            p.thrown.forEach(t -> row.u2(classEntry(t.name())));
        }
    }

    /** By the policy's own account: what is on the stack when it is fullest. */
    private static int greatestDepth(Part p) {
        int width = width(p.method);
        int back = p.method.returned == 2 ? 2 : 1;
        return switch (p.policy) {
            case 0 -> p.method.kinds.isEmpty() ? 4 : p.method.kinds.contains(2) ? 8 : 7;
            case 1 -> 2;
            case 2 -> Math.max(1 + width, back);
            default -> Math.max(2, 1 + width);
        };
    }

    private void instructions(Row code, int k, Part p) {
        Model.Method m = p.method;
        String own = descriptor("", m);
        if (p.policy != 2) {
            code.u1(42, 180).u2(member(9, proxy, "cb", "Lpx/Callback;"));
        }
        switch (p.policy) {
            case 0 -> {
                code.u1(42);
                push(code, k);
                boxed(code, m);
                code.u1(185).u2(member(11, CALLBACK, "on",
                        "(Ljava/lang/Object;I[Ljava/lang/Object;)Ljava/lang/Object;")).u1(4, 0);
                unboxed(code, m.returned);
            }
            case 1 -> {
                push(code, k);
                code.u1(185).u2(member(11, CALLBACK, "fixed", "(I)Ljava/lang/Object;")).u1(2, 0);
                unboxed(code, m.returned);
            }
            case 2 -> {
                code.u1(42);
                load(code, m, 1);
                code.u1(183).u2(p.special == null ? member(10, base.name(), m.text(), own)
                        : member(11, p.special.name(), m.text(), own));
                leave(code, m.returned);
            }
            default -> {
                push(code, k);
                code.u1(185).u2(member(11, CALLBACK, "to", "(I)Ljava/lang/Object;")).u1(2, 0);
                code.u1(192).u2(classEntry(m.type.name()));
                load(code, m, 1);
                if (m.type.face) {
                    code.u1(185).u2(member(11, m.type.name(), m.text(), own)).u1(width(m) + 1, 0);
                } else {
                    code.u1(182).u2(member(10, m.type.name(), m.text(), own));
                }
                leave(code, m.returned);
            }
        }
    }

    private void boxed(Row code, Model.Method m) {
        if (m.kinds.isEmpty()) {
            code.u1(1);
            return;
        }
        push(code, m.kinds.size());
        code.u1(189).u2(classEntry(OBJECT));
        int local = 1;
        for (int i = 0; i < m.kinds.size(); i++) {
            int kind = m.kinds.get(i);
            code.u1(89);
            push(code, i);
            code.u1(loading(kind), local);
            if (kind < 4) {
                code.u1(184).u2(member(10, BOX[kind], "valueOf", "(" + LETTER[kind] + ")L" + BOX[kind] + ";"));
            }
            code.u1(83);
            local += kind == 2 ? 2 : 1;
        }
    }

    private void unboxed(Row code, int kind) {
        if (kind == 0) {
            code.u1(87);
        } else if (kind < 4) {
            code.u1(192).u2(classEntry(BOX[kind]));
            code.u1(182).u2(member(10, BOX[kind], UNBOX[kind], "()" + LETTER[kind]));
        } else if (kind > 4) {
            code.u1(192).u2(classEntry(types.get(kind - 4).name()));
        }
        leave(code, kind);
    }
}
