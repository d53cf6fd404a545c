import java.io.ByteArrayInputStream;
import java.io.DataInputStream;
import java.io.IOException;
import java.util.ArrayList;
import java.util.List;

/**
 * A file as text. The pool's entries are told with the numbers that stand in them; the class and its methods either
 * so, too, or with what the numbers mean: a class by its name, a member as F, M or I (for 9, 10, 11), its class, its
 * name and its descriptor.
 */
final class Listing {
    final List<String> pool = new ArrayList<>();
    final List<String> methods = new ArrayList<>();
    final String head;
    private final List<String> meanings = new ArrayList<>();
    private final boolean plain;
    private final DataInputStream in;

    private Listing(byte[] file, boolean plain) throws IOException {
        this.plain = plain;
        in = new DataInputStream(new ByteArrayInputStream(file));
        in.readInt();
        in.readInt();
        int count = in.readUnsignedShort();
        for (int i = 1; i < count; i++) {
            entry();
        }
        head = two() + " " + entryText() + " " + entryText() + " " + classes() + " " + two() + " " + two() + " "
                + text() + " " + text() + " " + two();
        int howMany = two();
        for (int i = 0; i < howMany; i++) {
            methods.add(method());
        }
        if (two() != 0 || in.read() >= 0) {
            throw new IOException("the file does not end as it must");
        }
    }

    static Listing withNumbers(Renewed x) {
        return of(x, true);
    }

    static Listing withMeanings(Renewed x) {
        return of(x, false);
    }

    private static Listing of(Renewed x, boolean plain) {
        try {
            return new Listing(Make.bytes(x), plain);
        } catch (IOException | IndexOutOfBoundsException e) {
            throw new AssertionError("no file", e);
        }
    }

    String last() {
        return methods.get(methods.size() - 1);
    }

    private int two() throws IOException {
        return in.readUnsignedShort();
    }

    private String text() throws IOException {
        return pool.get(two() - 1);
    }

    private String entryText() throws IOException {
        int n = two();
        return plain ? String.valueOf(n) : meanings.get(n - 1);
    }

    private List<String> classes() throws IOException {
        List<String> found = new ArrayList<>();
        for (int n = two(); n > 0; n--) {
            found.add(entryText());
        }
        return found;
    }

    /** What an entry needs stands before it, so that its meaning is known at once. */
    private void entry() throws IOException {
        int tag = in.readUnsignedByte();
        if (tag == 1) {
            String letters = in.readUTF();
            pool.add(letters);
            meanings.add(letters);
            return;
        }
        int first = two();
        if (tag == 7) {
            pool.add("#" + first);
            meanings.add(meanings.get(first - 1));
            return;
        }
        int second = two();
        String between = tag == 12 ? " " : ".";
        pool.add(tag == 12 ? first + ":" + second : tag + " " + first + "." + second);
        String letter = tag == 9 ? "F:" : tag == 10 ? "M:" : tag == 11 ? "I:" : "";
        meanings.add(letter + meanings.get(first - 1) + between + meanings.get(second - 1));
    }

    private String method() throws IOException {
        int access = two();
        String s = access + " " + text() + " " + text() + " ";
        int attributes = two();
        s += attributes + ": " + text() + " " + in.readInt() + " " + two() + " " + two() + " " + code();
        List<String> handlers = new ArrayList<>();
        for (int n = two(); n > 0; n--) {
            handlers.add(two() + " " + two() + " " + two() + " " + entryText());
        }
        int tables = two();
        s += " " + handlers + " " + tables;
        if (tables == 1) {
            s += " " + text() + " " + in.readInt() + " " + two() + " " + in.readUnsignedByte() + " "
                    + in.readUnsignedByte() + " " + entryText() + " " + in.readUnsignedByte() + " "
                    + in.readUnsignedByte() + " " + entryText();
        }
        return attributes == 2 ? s + " " + text() + " " + in.readInt() + " " + classes() : s;
    }

    private String code() throws IOException {
        int length = in.readInt();
        StringBuilder s = new StringBuilder(length + ":");
        int at = 0;
        while (at < length) {
            int op = in.readUnsignedByte();
            s.append(' ').append(op);
            int operands = switch (op) {
                case 16, 21, 22, 25, 58 -> 1;
                case 180, 181, 182, 183, 184, 187, 189, 192 -> 2;
                case 185 -> 4;
                default -> 0;
            };
            at += 1 + operands;
            if (operands >= 2) {
                s.append(' ').append(entryText());
                operands -= 2;
            }
            for (int i = 0; i < operands; i++) {
                s.append(' ').append(in.readUnsignedByte());
            }
        }
        return s.toString();
    }
}
