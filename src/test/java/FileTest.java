import java.io.ByteArrayInputStream;
import java.io.DataInputStream;
import java.io.IOException;
import java.util.ArrayList;
import java.util.List;

/** Promises 8, 16 and 17: the file's bytes, written out here as the document tells them. */
public final class FileTest {
    private static final Check CHECK = new Check();
    private static final int NONE = ProxyForge.NONE;

    public static void main(String[] args) throws IOException {
        proxyOfObject();
        sizeAndBytes();
        constructors();
        intercepted();
        interceptedThrowingThrowable();
        fixedAndDispatched();
        superCalls();
        pushesAndNames();
        CHECK.end();
    }

    private static byte[] bytes(ProxyForge x) {
        byte[] file = new byte[x.size()];
        for (int k = 0; k < file.length; k++) {
            file[k] = (byte) x.byteAt(k);
        }
        return file;
    }

    private static void sameText(String what, String due, String got) {
        CHECK.yes(what + "\n due " + due + "\n got " + got, due.equals(got));
    }

    /** Every single byte of the smallest file. */
    private static void proxyOfObject() {
        ProxyForge x = new ProxyForge();
        CHECK.same("forge", 0, x.forge(0, NONE, NONE, NONE));
        Object[] due = {
            202, 254, 186, 190, 0, 0, 0, 52, 0, 15,
            1, 0, 4, "px/P", 7, 0, 1, 1, 0, 16, "java/lang/Object", 7, 0, 3, 1, 0, 2, "cb", 1, 0, 13, "Lpx/Callback;",
            1, 0, 6, "<init>", 1, 0, 16, "(Lpx/Callback;)V", 1, 0, 4, "Code", 12, 0, 5, 0, 6, 9, 0, 2, 0, 10,
            1, 0, 3, "()V", 12, 0, 7, 0, 12, 10, 0, 4, 0, 13,
            0, 49, 0, 2, 0, 4, 0, 0, 0, 1, 0, 2, 0, 5, 0, 6, 0, 0, 0, 1,
            0, 1, 0, 7, 0, 8, 0, 1, 0, 9, 0, 0, 0, 22, 0, 2, 0, 2, 0, 0, 0, 10,
            42, 43, 181, 0, 11, 42, 183, 0, 14, 177, 0, 0, 0, 0, 0, 0,
        };
        int k = 0;
        for (Object part : due) {
            String letters = part instanceof String s ? s : String.valueOf((char) (int) (Integer) part);
            for (char c : letters.toCharArray()) {
                CHECK.same("byteAt(" + k + ")", c, x.byteAt(k));
                k++;
            }
        }
        CHECK.same("size", k, x.size());
    }

    private static void sizeAndBytes() {
        ProxyForge x = new ProxyForge();
        CHECK.same("size without a proxy", 0, x.size());
        x.forge(2, NONE, NONE, NONE);
        int size = x.size();
        CHECK.same("behind the last", NONE, x.byteAt(size));
        CHECK.same("before the first", NONE, x.byteAt(-1));
        CHECK.same("far off", NONE, x.byteAt(Integer.MAX_VALUE));
        CHECK.same("far off", NONE, x.byteAt(Integer.MIN_VALUE));
        CHECK.same("the last", 0, x.byteAt(size - 1));
    }

    private static void constructors() throws IOException {
        ProxyForge x = new ProxyForge();
        int type = x.type(false, 1, 3, 0);
        x.method(type, 10, 2, 2 + 32 * 3, 0);
        x.method(type, 10, 4, 0, 0);
        x.method(type, 10, 0, 8, 0);
        x.forge(type, NONE, NONE, NONE);
        Listing l = new Listing(bytes(x));
        sameText("pool", "p3/P, #1, p3/T4, #3, cb, Lpx/Callback;, <init>, (Lpx/Callback;JZ)V, Code, 5:6, 9 2.10, (JZ)V, "
                + "7:12, 10 4.13, (Lpx/Callback;Lp3/T4;)V, (Lp3/T4;)V, 7:16, 10 4.17", String.join(", ", l.pool));
        sameText("two constructors", "49 2 4 [] 1 2 cb Lpx/Callback; 0", l.head);
        sameText("JZ", "4 <init> (Lpx/Callback;JZ)V 1: Code 26 4 5 14: 42 43 181 11 42 22 2 21 4 183 14 177 [] 0",
                l.methods.get(0));
        sameText("T4", "0 <init> (Lpx/Callback;Lp3/T4;)V 1: Code 24 2 3 12: 42 43 181 11 42 25 2 183 18 177 [] 0",
                l.methods.get(1));
        CHECK.same("no more", 2, l.methods.size());
    }

    private static void intercepted() throws IOException {
        ProxyForge x = new ProxyForge();
        int type = x.type(false, 1, 0, 0);
        int face = x.type(true, 1, 1, 0);
        x.method(type, 10, 1, 0, 0);
        int m = x.method(type, 7, 2, 1 + 32 * (2 + 32 * (3 + 32 * 9)), 2);
        x.throwing(m, 3);
        x.throwing(m, 2);
        x.method(face, 2, 33, 0, 0);
        x.method(face, 3, 33, 0, 4);
        x.forge(type, face, NONE, NONE);
        Listing l = new Listing(bytes(x));
        sameText("head", "49 2 4 [6] 1 2 cb Lpx/Callback; 0", l.head);
        sameText("four parameters, a long back, two thrown", "20 m7 (IJZLp1/T5;)J 2: Code 132 8 7 64: "
                + "42 180 13 42 3 7 189 20 89 3 21 1 184 26 83 89 4 22 2 184 31 83 89 5 21 4 184 36 83 "
                + "89 6 25 5 83 185 42 4 0 192 28 182 46 173 191 58 6 187 48 89 25 6 183 51 191 "
                + "[0 51 51 53, 0 51 51 55, 0 51 51 55, 0 51 51 53, 0 51 52 57] 1 StackMapTable 10 2 115 7 57 64 7 57 "
                + "Exceptions 6 [55, 53]", l.methods.get(1));
        sameText("nothing there, nothing back", "17 m2 ()V 1: Code 79 4 2 27: "
                + "42 180 13 42 4 1 185 42 4 0 87 177 191 58 1 187 48 89 25 1 183 51 191 "
                + "[0 14 14 53, 0 14 14 55, 0 14 15 57] 1 StackMapTable 10 2 78 7 57 64 7 57", l.methods.get(2));
        sameText("an object back", "17 m3 ()Ljava/lang/Object; 1: Code 78 4 2 26: "
                + "42 180 13 42 5 1 185 42 4 0 176 191 58 1 187 48 89 25 1 183 51 191 "
                + "[0 13 13 53, 0 13 13 55, 0 13 14 57] 1 StackMapTable 10 2 77 7 57 64 7 57", l.methods.get(3));
        sameText("pool from the slot on", "m7, (IJZLp1/T5;)J, java/lang/Object, #19, "
                + "java/lang/Integer, #21, valueOf, (I)Ljava/lang/Integer;, 23:24, 10 22.25, "
                + "java/lang/Long, #27, (J)Ljava/lang/Long;, 23:29, 10 28.30, "
                + "java/lang/Boolean, #32, (Z)Ljava/lang/Boolean;, 23:34, 10 33.35, px/Callback, #37, on, "
                + "(Ljava/lang/Object;I[Ljava/lang/Object;)Ljava/lang/Object;, 39:40, 11 38.41, longValue, ()J, 43:44, "
                + "10 28.45, java/lang/reflect/UndeclaredThrowableException, #47, (Ljava/lang/Throwable;)V, 9:49, "
                + "10 48.50, java/lang/Error, #52, java/lang/RuntimeException, #54, java/lang/Throwable, #56, "
                + "StackMapTable, Exceptions, m2, m3, ()Ljava/lang/Object;",
                String.join(", ", l.pool.subList(16, l.pool.size())));
    }

    private static void interceptedThrowingThrowable() throws IOException {
        ProxyForge x = new ProxyForge();
        int type = x.type(false, 5, 0, 0);
        x.method(type, 10, 1, 0, 0);
        int m = x.method(type, 1, 32, 0, 3);
        x.throwing(m, 2);
        x.throwing(m, 1);
        x.forge(type, NONE, NONE, NONE);
        x.throwing(m, 3);
        Listing l = new Listing(bytes(x));
        sameText("no handlers", "16 m1 ()Z 2: Code 31 4 1 19: 42 180 11 42 3 1 185 22 4 0 192 24 182 27 172 [] 0 "
                + "Exceptions 6 [30, 32]", l.methods.get(1));
        x.forge(type, NONE, NONE, NONE);
        CHECK.yes("one more", new Listing(bytes(x)).methods.get(1).endsWith(" Exceptions 8 [30, 32, 34]"));
    }

    private static void fixedAndDispatched() throws IOException {
        ProxyForge x = new ProxyForge();
        int type = x.type(false, 1, 0, 0);
        int face = x.type(true, 1, 0, 0);
        x.method(type, 10, 1, 0, 0);
        x.method(type, 1, 1, 0, 1);
        int m = x.method(type, 2, 1, 2, 4 + type);
        x.throwing(m, 3);
        x.method(face, 2, 33, 2 + 32 * 2, 2);
        x.policy(1, 1);
        x.policy(2, 3);
        x.forge(type, face, NONE, NONE);
        Listing l = new Listing(bytes(x));
        sameText("FIXED", "17 m1 ()I 1: Code 29 2 1 17: 42 180 13 3 185 24 2 0 192 26 182 29 172 [] 0", l.methods.get(1));
        sameText("FIXED's entries", "m1, ()I, px/Callback, #19, fixed, (I)Ljava/lang/Object;, 21:22, 11 20.23, "
                + "java/lang/Integer, #25, intValue, 27:18, 10 26.28", String.join(", ", l.pool.subList(16, 29)));
        sameText("DISPATCHED, of a class", "17 m2 (J)Lp0/T4; 2: Code 31 3 3 19: "
                + "42 180 13 4 185 34 2 0 192 4 22 1 182 36 176 [] 0 Exceptions 4 [39]", l.methods.get(2));
        sameText("DISPATCHED, of an interface", "17 m2 (JJ)J 1: Code 35 5 5 23: "
                + "42 180 13 5 185 34 2 0 192 6 22 1 22 3 185 42 5 0 173 [] 0", l.methods.get(3));
        sameText("DISPATCHED's entries", "m2, (J)Lp0/T4;, to, 32:22, 11 20.33, 30:31, 10 4.35, Exceptions, "
                + "java/lang/RuntimeException, #38, (JJ)J, 30:40, 11 6.41", String.join(", ", l.pool.subList(29, 42)));
    }

    private static void superCalls() throws IOException {
        ProxyForge x = new ProxyForge();
        int parent = x.type(false, 1, 0, 0);
        int type = x.type(false, 1, 0, parent);
        int[] face = new int[4];
        for (int i = 0; i < 4; i++) {
            face[i] = x.type(true, 1, 0, 0);
        }
        x.method(type, 10, 1, 0, 0);
        x.method(parent, 1, 1, 0, 2);
        x.method(face[0], 1, 33, 1, 0);
        x.method(face[3], 1, 1, 2, 0);
        x.implement(parent, face[0]);
        x.implement(face[2], face[3]);
        x.implement(face[1], face[3]);
        x.policy(1, 2);
        x.forge(type, face[0], face[2], face[1]);
        Listing l = new Listing(bytes(x));
        sameText("head", "49 2 4 [6, 8, 10] 1 2 cb Lpx/Callback; 0", l.head);
        sameText("of a parent", "17 m1 ()J 1: Code 17 2 1 5: 42 183 24 173 [] 0", l.methods.get(1));
        sameText("of an interface that the class led to", "17 m1 (I)V 1: Code 19 2 2 7: 42 21 1 183 27 177 [] 0",
                l.methods.get(2));
        sameText("of an interface that I led to", "17 m1 (J)V 1: Code 19 3 3 7: 42 22 1 183 30 177 [] 0",
                l.methods.get(3));
        sameText("entries", "m1, ()J, 21:22, 10 4.23, (I)V, 21:25, 10 4.26, (J)V, 21:28, 11 8.29",
                String.join(", ", l.pool.subList(20, 30)));
    }

    private static void pushesAndNames() throws IOException {
        ProxyForge x = new ProxyForge();
        int last = 0;
        for (int t = 4; t < 20; t++) {
            last = x.type(false, 5, t % 4, t == 4 ? 0 : last);
        }
        x.method(last, 10, 1, 0, 0);
        for (int m = 0; m < 8; m++) {
            x.method(last, m, 1, 0, 4 + last - m);
            x.policy(m, 1);
        }
        x.forge(last, NONE, NONE, NONE);
        Listing l = new Listing(bytes(x));
        sameText("the short pushes' last", "17 m5 ()Lp2/T14; 1: Code 26 2 1 14: 42 180 11 8 185 22 2 0 192 42 176 [] 0",
                l.methods.get(6));
        sameText("the long pushes' first", "17 m6 ()Lp1/T13; 1: Code 27 2 1 15: 42 180 11 16 6 185 22 2 0 192 46 176 [] 0",
                l.methods.get(7));
        sameText("names", "p3/P, #1, p3/T19, #3", String.join(", ", l.pool.subList(0, 4)));
    }

    /** A file as text: the pool's entries with numbers, code with its operands. */
    private static final class Listing {
        private final List<String> pool = new ArrayList<>();
        private final List<String> methods = new ArrayList<>();
        private final String head;
        private final DataInputStream in;

        Listing(byte[] file) throws IOException {
            in = new DataInputStream(new ByteArrayInputStream(file));
            in.readInt();
            in.readInt();
            int count = in.readUnsignedShort();
            for (int i = 1; i < count; i++) {
                pool.add(entry());
            }
            head = two() + " " + two() + " " + two() + " " + classes() + " " + two() + " " + two() + " " + text() + " "
                    + text() + " " + two();
            int howMany = two();
            for (int i = 0; i < howMany; i++) {
                methods.add(method());
            }
        }

        private int two() throws IOException {
            return in.readUnsignedShort();
        }

        private String text() throws IOException {
            return pool.get(two() - 1);
        }

        private List<Integer> classes() throws IOException {
            List<Integer> found = new ArrayList<>();
            for (int n = two(); n > 0; n--) {
                found.add(two());
            }
            return found;
        }

        private String entry() throws IOException {
            int tag = in.readUnsignedByte();
            return switch (tag) {
                case 1 -> in.readUTF();
                case 7 -> "#" + two();
                case 12 -> two() + ":" + two();
                default -> tag + " " + two() + "." + two();
            };
        }

        private String method() throws IOException {
            int access = two();
            String s = access + " " + text() + " " + text() + " ";
            int attributes = two();
            s += attributes + ": " + text() + " " + in.readInt() + " " + two() + " " + two() + " " + code();
            List<String> handlers = new ArrayList<>();
            for (int n = two(); n > 0; n--) {
                handlers.add(two() + " " + two() + " " + two() + " " + two());
            }
            int tables = two();
            s += " " + handlers + " " + tables;
            if (tables == 1) {
                s += " " + text() + " " + in.readInt() + " " + two() + " " + in.readUnsignedByte() + " "
                        + in.readUnsignedByte() + " " + two() + " " + in.readUnsignedByte() + " " + in.readUnsignedByte()
                        + " " + two();
            }
            return attributes == 2 ? s + " " + text() + " " + in.readInt() + " " + classes() : s;
        }

        private String code() throws IOException {
            int length = in.readInt();
            StringBuilder s = new StringBuilder(length + ":");
            int at = 0;
            while (at < length) {
                int op = in.readUnsignedByte();
                s.append(' ').append(op);
                at++;
                int operands = switch (op) {
                    case 16, 21, 22, 25, 58 -> 1;
                    case 180, 181, 182, 183, 184, 187, 189, 192 -> 2;
                    case 185 -> 4;
                    default -> 0;
                };
                at += operands;
                if (operands >= 2) {
                    s.append(' ').append(two());
                    operands -= 2;
                }
                for (int i = 0; i < operands; i++) {
                    s.append(' ').append(in.readUnsignedByte());
                }
            }
            return s.toString();
        }
    }
}
