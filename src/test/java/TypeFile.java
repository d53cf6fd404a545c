import java.io.ByteArrayOutputStream;
import java.io.DataOutputStream;
import java.io.IOException;
import java.util.ArrayList;
import java.util.LinkedHashMap;
import java.util.List;
import java.util.Map;

/** A class file for a type that proxies are made of: its constructors call the parent's, its methods return 0 or null. */
final class TypeFile {
    private final Map<List<Object>, Integer> pool = new LinkedHashMap<>();
    private final List<byte[]> methods = new ArrayList<>();
    private final String name;
    private final String parent;
    private final String[] faces;
    private final int access;

    TypeFile(int access, String name, String parent, String... faces) {
        this.access = access;
        this.name = name;
        this.parent = parent;
        this.faces = faces;
    }

    private int entry(Object... content) {
        List<Object> key = List.of(content);
        Integer known = pool.get(key);
        if (known == null) {
            known = pool.size() + 1;
            pool.put(key, known);
        }
        return known;
    }

    private int text(String letters) {
        return entry(1, letters);
    }

    private int classEntry(String of) {
        return entry(7, text(of));
    }

    void constructor(int flags, String descriptor) throws IOException {
        int above = entry(10, classEntry(parent), entry(12, text("<init>"), text("()V")));
        method(flags, "<init>", descriptor, new byte[] {42, (byte) 183, (byte) (above >> 8), (byte) above, (byte) 177});
    }

    void returning(int flags, String methodName, String descriptor) throws IOException {
        if ((flags & 0x400) != 0) {
            method(flags, methodName, descriptor, null);
            return;
        }
        byte[] code = switch (descriptor.charAt(descriptor.indexOf(')') + 1)) {
            case 'V' -> new byte[] {(byte) 177};
            case 'J' -> new byte[] {9, (byte) 173};
            case 'L' -> new byte[] {1, (byte) 176};
            default -> new byte[] {3, (byte) 172};
        };
        method(flags, methodName, descriptor, code);
    }

    private void method(int flags, String methodName, String descriptor, byte[] code) throws IOException {
        ByteArrayOutputStream bytes = new ByteArrayOutputStream();
        DataOutputStream out = new DataOutputStream(bytes);
        out.writeShort(flags);
        out.writeShort(text(methodName));
        out.writeShort(text(descriptor));
        out.writeShort(code == null ? 0 : 1);
        if (code != null) {
            out.writeShort(text("Code"));
            out.writeInt(12 + code.length);
            out.writeShort(2);
            out.writeShort(12);
            out.writeInt(code.length);
            out.write(code);
            out.writeInt(0);
        }
        methods.add(bytes.toByteArray());
    }

    byte[] bytes() throws IOException {
        int self = classEntry(name);
        int above = classEntry(parent);
        int[] faceEntries = new int[faces.length];
        for (int i = 0; i < faces.length; i++) {
            faceEntries[i] = classEntry(faces[i]);
        }
        ByteArrayOutputStream bytes = new ByteArrayOutputStream();
        DataOutputStream out = new DataOutputStream(bytes);
        out.writeInt(0xCAFEBABE);
        out.writeInt(52);
        out.writeShort(pool.size() + 1);
        for (List<Object> e : pool.keySet()) {
            out.writeByte((Integer) e.get(0));
            if (e.get(1) instanceof String letters) {
                out.writeUTF(letters);
            } else {
                for (Object number : e.subList(1, e.size())) {
                    out.writeShort((Integer) number);
                }
            }
        }
        out.writeShort(access);
        out.writeShort(self);
        out.writeShort(above);
        out.writeShort(faces.length);
        for (int face : faceEntries) {
            out.writeShort(face);
        }
        out.writeShort(0);
        out.writeShort(methods.size());
        for (byte[] method : methods) {
            out.write(method);
        }
        out.writeShort(0);
        return bytes.toByteArray();
    }
}
