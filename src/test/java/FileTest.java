import java.util.HashSet;
import java.util.List;

/** Promises 8, 16 and 17: the file's bytes and its pool, written out here as the document tells them. */
public final class FileTest {
    private static final Check CHECK = new Check();
    private static final int NONE = ProxyForge.NONE;
    private static final int OBJECT_SIZE = 182;

    public static void main(String[] args) {
        everyByte();
        sizes();
        bytesAt();
        countOfEntries();
        noneTwice();
        neededAtFirst();
        proxyNames();
        typeNames();
        methodNames();
        descriptors();
        constructorEntries();
        interceptedEntries();
        handlersBeforeTable();
        fixedEntries();
        dispatchedEntries();
        superEntries();
        CHECK.end();
    }

    private static void pool(String what, String due, Listing l, int from, int to) {
        CHECK.text(what, due, String.join(", ", l.pool.subList(from - 1, to)));
    }

    private static void everyByte() {
        CHECK.of("THE FILE: numbers of 1, 2 or 4 bytes, the highest first");
        ProxyForge x = new ProxyForge();
        CHECK.same("forge", 0, x.forge(0, NONE, NONE, NONE));
        Object[] due = {
            202, 254, 186, 190, 0, 0, 0, 52, 0, 15,
            1, 0, 4, "px/P", 7, 0, 1, 1, 0, 16, "java/lang/Object", 7, 0, 3, 1, 0, 2, "cb", 1, 0, 13, "Lpx/Callback;",
            1, 0, 6, "<init>", 1, 0, 16, "(Lpx/Callback;)V", 1, 0, 4, "Code", 12, 0, 5, 0, 6, 9, 0, 2, 0, 10,
            1, 0, 3, "()V", 12, 0, 7, 0, 12, 10, 0, 4, 0, 13,
            0, 49, 0, 2, 0, 4, 0, 0, 0, 1, 0, 2, 0, 5, 0, 6, 0, 0, 0, 1,
            0, 1, 0, 7, 0, 8, 0, 1, 0, 9, 0, 0, 0, 22, 0, 2, 0, 2, 0, 0, 0, 10,
            42, 43, 181, 0, 11, 42, 183, 0, 14, 177, 0, 0, 0, 0, 0, 0,
        };
        int k = 0;
        for (Object part : due) {
            String letters = part instanceof String s ? s : String.valueOf((char) (int) (Integer) part);
            for (char c : letters.toCharArray()) {
                CHECK.same("byteAt(" + k + ")", c, x.byteAt(k));
                k++;
            }
        }
        CHECK.same("size", k, x.size());
    }

    private static void sizes() {
        CHECK.of("Promise 16: How many bytes the file has; 0 without a proxy");
        ProxyForge x = new ProxyForge();
        CHECK.same("without a proxy", 0, x.size());
        CHECK.same("refused", 3, x.forge(0, 0, NONE, NONE));
        CHECK.same("still without one", 0, x.size());
        x.forge(0, NONE, NONE, NONE);
        CHECK.same("of OBJECT", OBJECT_SIZE, x.size());
        x.forge(3, NONE, NONE, NONE);
        CHECK.same("of RUNTIME EXCEPTION, a longer name", OBJECT_SIZE + 10, x.size());
        x.forge(2, NONE, NONE, NONE);
        CHECK.same("of ERROR, a shorter one", OBJECT_SIZE - 1, x.size());
        x.cut(100);
        CHECK.same("cut", 100, x.size());
        x.change(3, 0);
        CHECK.same("changed", 100, x.size());
        x.cut(0);
        CHECK.same("of no bytes", 0, x.size());
    }

    private static void bytesAt() {
        CHECK.of("Promise 17: A byte of the file; NONE if there is none");
        ProxyForge x = new ProxyForge();
        x.forge(3, NONE, NONE, NONE);
        x.forge(0, NONE, NONE, NONE);
        CHECK.same("the first", 202, x.byteAt(0));
        CHECK.same("the last", 0, x.byteAt(OBJECT_SIZE - 1));
        for (int far : new int[] {Integer.MIN_VALUE, -1, OBJECT_SIZE, OBJECT_SIZE + 1, OBJECT_SIZE + 9, 512,
            Integer.MAX_VALUE}) {
            CHECK.same("byteAt(" + far + ")", NONE, x.byteAt(far));
        }
        x.cut(1);
        CHECK.same("the only one", 202, x.byteAt(0));
        CHECK.same("cut off", NONE, x.byteAt(1));
        x.cut(0);
        CHECK.same("cut off", NONE, x.byteAt(0));
    }

    /** A class with four slots of all policies, and an interface with another four. */
    private static Renewed eight() {
        Renewed x = new Renewed();
        int type = Make.base(x, 1, 0, 0);
        int face = x.type(true, 1, 1, 0);
        for (int name = 0; name < 4; name++) {
            int m = x.method(type, name, 1, Make.parameters(1, 2, 3, 8), name);
            x.throwing(m, 3);
            x.method(face, name, 33, Make.parameters(9, 3), 8);
            x.policy(name, name);
        }
        CHECK.same("forge", 0, Make.forge(x, type, face));
        return x;
    }

    private static void countOfEntries() {
        CHECK.of("THE FILE: the POOL: how many entries and 1 (2), the entries");
        Renewed x = eight();
        int count = (x.byteAt(8) << 8) + x.byteAt(9);
        CHECK.same("entries and 1", Listing.withNumbers(x).pool.size() + 1, count);
        CHECK.same("read", NONE, x.read());
    }

    private static void noneTwice() {
        CHECK.of("THE FILE: An entry is made when it is first needed; what it needs itself before it; none twice");
        List<String> pool = Listing.withNumbers(eight()).pool;
        CHECK.same("different entries", pool.size(), new HashSet<>(pool).size());
        for (int i = 0; i < pool.size(); i++) {
            if (pool.get(i).matches("#\\d+|\\d+:\\d+|\\d+ \\d+\\.\\d+")) {
                String[] numbers = pool.get(i).replaceFirst("^\\d+ ", "").split("\\D+");
                for (String number : numbers) {
                    CHECK.yes(pool.get(i) + " needs earlier ones", number.isEmpty() || Integer.parseInt(number) <= i);
                }
            }
        }
    }

    private static void neededAtFirst() {
        CHECK.of("THE FILE: Needed at first: the CLASSES of the proxy, of C, of I; then TEXTS cb and Lpx/Callback;");
        Renewed x = new Renewed();
        int type = Make.base(x, 1, 3, 0);
        int a = x.type(true, 1, 1, 0);
        int b = x.type(true, 1, 0, 0);
        int c = x.type(true, 0, 3, 0);
        Make.forge(x, type, c, a, b);
        Listing l = Listing.withNumbers(x);
        pool("pool", "p3/P, #1, p3/T4, #3, p3/T7, #5, p1/T5, #7, p0/T6, #9, cb, Lpx/Callback;, <init>", l, 1, 13);
        CHECK.text("class", "49 2 4 [6, 8, 10] 1 2 cb Lpx/Callback; 0", l.head);
        Make.forge(x, type);
        CHECK.text("without I", "49 2 4 [] 1 2 cb Lpx/Callback; 0", Listing.withNumbers(x).head);
    }

    private static void proxyNames() {
        CHECK.of("The proxy class is in C's package (of 4: in px), named as C's package, / and P");
        for (int pack = 0; pack < 4; pack++) {
            Renewed x = new Renewed();
            Make.forge(x, Make.base(x, 1, pack, 0));
            pool("package " + pack, "p" + pack + "/P, #1, p" + pack + "/T4, #3", Listing.withNumbers(x), 1, 4);
        }
        Renewed x = new Renewed();
        Make.forge(x, 1);
        pool("package 4", "px/P, #1, java/lang/Throwable, #3", Listing.withNumbers(x), 1, 4);
    }

    private static void typeNames() {
        CHECK.of("with the name p, the digit of the package, /T, the number");
        for (int type = 4; type < 20; type++) {
            Renewed x = new Renewed();
            for (int before = 4; before < type; before++) {
                x.type(true, 1, 0, 0);
            }
            Make.forge(x, Make.base(x, 1, type % 4, 0));
            pool("type " + type, "p" + type % 4 + "/T" + type, Listing.withNumbers(x), 3, 3);
        }
    }

    private static void methodNames() {
        CHECK.of("with a NAME 0 .. 9 (m and the digit) or 10, a constructor (<init>)");
        Renewed x = new Renewed();
        int type = Make.base(x, 1, 0, 0);
        for (int name = 9; name >= 0; name--) {
            x.method(type, name, 1, 0, 0);
        }
        Make.forge(x, type);
        List<String> methods = Listing.withMeanings(x).methods;
        CHECK.yes("constructor", methods.get(0).startsWith("1 <init> (Lpx/Callback;)V 1: "));
        for (int name = 0; name < 10; name++) {
            CHECK.yes("m" + name, methods.get(10 - name).startsWith("17 m" + name + " ()V 1: "));
        }
        CHECK.same("methods", 11, methods.size());
    }

    private static void descriptors() {
        CHECK.of("A DESCRIPTOR: ( the parameters' letters ) the returned one's; a type is L its name ;");
        Object[][] due = {
            {0, 0, "()V"}, {0, 1, "()I"}, {0, 2, "()J"}, {0, 3, "()Z"}, {0, 4, "()Ljava/lang/Object;"},
            {0, 7, "()Ljava/lang/RuntimeException;"}, {0, 8, "()Lp2/T4;"}, {Make.parameters(1), 0, "(I)V"},
            {Make.parameters(2, 1), 0, "(JI)V"}, {Make.parameters(3, 6, 2), 1, "(ZLjava/lang/Error;J)I"},
            {Make.parameters(1, 2, 3, 5), 3, "(IJZLjava/lang/Throwable;)Z"},
            {Make.parameters(8, 9, 8, 9), 9, "(Lp2/T4;Lp1/T5;Lp2/T4;Lp1/T5;)Lp1/T5;"},
        };
        for (Object[] d : due) {
            Renewed x = new Renewed();
            int type = Make.base(x, 1, 2, 0);
            x.type(true, 1, 1, 0);
            x.method(type, 1, 1, (int) d[0], (int) d[1]);
            Make.forge(x, type);
            CHECK.text("descriptor", (String) d[2], Listing.withNumbers(x).last().split(" ")[2]);
        }
    }

    private static void constructorEntries() {
        CHECK.of("First CONSTRUCTORS: for each one of C that isn't PRIVATE, by number; entries in the order of the telling");
        Renewed x = new Renewed();
        int type = x.type(false, 1, 3, 0);
        x.method(type, 10, 2, Make.parameters(2, 3), 0);
        x.method(type, 10, 4, 0, 0);
        x.method(type, 10, 0, 8, 0);
        Make.forge(x, type);
        Listing l = Listing.withNumbers(x);
        pool("pool", "p3/P, #1, p3/T4, #3, cb, Lpx/Callback;, <init>, (Lpx/Callback;JZ)V, Code, 5:6, 9 2.10, (JZ)V, "
                + "7:12, 10 4.13, (Lpx/Callback;Lp3/T4;)V, (Lp3/T4;)V, 7:16, 10 4.17", l, 1, 18);
        CHECK.same("no more entries", 18, l.pool.size());
        CHECK.text("JZ", "4 <init> (Lpx/Callback;JZ)V 1: Code 26 4 5 14: 42 43 181 11 42 22 2 21 4 183 14 177 [] 0",
                l.methods.get(0));
        CHECK.text("T4", "0 <init> (Lpx/Callback;Lp3/T4;)V 1: Code 24 2 3 12: 42 43 181 11 42 25 2 183 18 177 [] 0",
                l.methods.get(1));
        CHECK.same("no more", 2, l.methods.size());
    }

    private static void interceptedEntries() {
        CHECK.of("INTERCEPTED: entries in the order of the telling");
        Renewed x = new Renewed();
        int type = Make.base(x, 1, 0, 0);
        int face = x.type(true, 1, 1, 0);
        int m = x.method(type, 7, 2, Make.parameters(1, 2, 3, 9), 2);
        x.throwing(m, 3);
        x.throwing(m, 2);
        x.method(face, 2, 33, 0, 0);
        x.method(face, 3, 33, 0, 4);
        Make.forge(x, type, face);
        Listing l = Listing.withNumbers(x);
        CHECK.text("head", "49 2 4 [6] 1 2 cb Lpx/Callback; 0", l.head);
        CHECK.text("four parameters, a long back, two thrown", "20 m7 (IJZLp1/T5;)J 2: Code 132 8 7 64: "
                + "42 180 13 42 3 7 189 20 89 3 21 1 184 26 83 89 4 22 2 184 31 83 89 5 21 4 184 36 83 "
                + "89 6 25 5 83 185 42 4 0 192 28 182 46 173 191 58 6 187 48 89 25 6 183 51 191 "
                + "[0 51 51 53, 0 51 51 55, 0 51 51 55, 0 51 51 53, 0 51 52 57] 1 StackMapTable 10 2 115 7 57 64 7 57 "
                + "Exceptions 6 [55, 53]", l.methods.get(1));
        CHECK.text("nothing there, nothing back", "17 m2 ()V 1: Code 79 4 2 27: "
                + "42 180 13 42 4 1 185 42 4 0 87 177 191 58 1 187 48 89 25 1 183 51 191 "
                + "[0 14 14 53, 0 14 14 55, 0 14 15 57] 1 StackMapTable 10 2 78 7 57 64 7 57", l.methods.get(2));
        CHECK.text("an object back", "17 m3 ()Ljava/lang/Object; 1: Code 78 4 2 26: "
                + "42 180 13 42 5 1 185 42 4 0 176 191 58 1 187 48 89 25 1 183 51 191 "
                + "[0 13 13 53, 0 13 13 55, 0 13 14 57] 1 StackMapTable 10 2 77 7 57 64 7 57", l.methods.get(3));
        pool("pool from the slot on", "m7, (IJZLp1/T5;)J, java/lang/Object, #19, "
                + "java/lang/Integer, #21, valueOf, (I)Ljava/lang/Integer;, 23:24, 10 22.25, "
                + "java/lang/Long, #27, (J)Ljava/lang/Long;, 23:29, 10 28.30, "
                + "java/lang/Boolean, #32, (Z)Ljava/lang/Boolean;, 23:34, 10 33.35, px/Callback, #37, on, "
                + "(Ljava/lang/Object;I[Ljava/lang/Object;)Ljava/lang/Object;, 39:40, 11 38.41, longValue, ()J, 43:44, "
                + "10 28.45, java/lang/reflect/UndeclaredThrowableException, #47, (Ljava/lang/Throwable;)V, 9:49, "
                + "10 48.50, java/lang/Error, #52, java/lang/RuntimeException, #54, java/lang/Throwable, #56, "
                + "StackMapTable, Exceptions, m2, m3, ()Ljava/lang/Object;", l, 17, l.pool.size());
    }

    private static void handlersBeforeTable() {
        CHECK.of("All that the code needs comes before what handlers need, and that before STACKMAPTABLE");
        Renewed x = new Renewed();
        int type = Make.base(x, 1, 0, 0);
        int thrown = x.type(false, 1, 1, 1);
        int m = x.method(type, 1, 1, 0, 6);
        x.throwing(m, thrown);
        Make.forge(x, type);
        Listing l = Listing.withNumbers(x);
        pool("pool from the slot on", "m1, ()Ljava/lang/Error;, px/Callback, #17, on, "
                + "(Ljava/lang/Object;I[Ljava/lang/Object;)Ljava/lang/Object;, 19:20, 11 18.21, java/lang/Error, #23, "
                + "java/lang/reflect/UndeclaredThrowableException, #25, (Ljava/lang/Throwable;)V, 7:27, 10 26.28, "
                + "java/lang/RuntimeException, #30, p1/T5, #32, java/lang/Throwable, #34, StackMapTable, Exceptions",
                l, 15, l.pool.size());
        x.throwing(m, 1);
        Make.forge(x, type);
        l = Listing.withNumbers(x);
        pool("without handlers", "java/lang/Error, #23, Exceptions, p1/T5, #26, java/lang/Throwable, #28",
                l, 23, l.pool.size());
    }

    private static void fixedEntries() {
        CHECK.of("FIXED: entries in the order of the telling");
        Renewed x = new Renewed();
        int type = Make.base(x, 1, 0, 0);
        x.method(type, 1, 1, 0, 1);
        x.policy(1, 1);
        Make.forge(x, type);
        Listing l = Listing.withNumbers(x);
        CHECK.text("FIXED", "17 m1 ()I 1: Code 29 2 1 17: 42 180 11 3 185 22 2 0 192 24 182 27 172 [] 0", l.last());
        pool("entries", "m1, ()I, px/Callback, #17, fixed, (I)Ljava/lang/Object;, 19:20, 11 18.21, "
                + "java/lang/Integer, #23, intValue, 25:16, 10 24.26", l, 15, l.pool.size());
    }

    private static void dispatchedEntries() {
        CHECK.of("DISPATCHED: entries in the order of the telling");
        Renewed x = new Renewed();
        int type = Make.base(x, 1, 0, 0);
        int face = x.type(true, 1, 0, 0);
        int m = x.method(type, 2, 1, 2, 4 + type);
        x.throwing(m, 3);
        x.method(face, 2, 33, Make.parameters(2, 2), 2);
        x.policy(2, 3);
        Make.forge(x, type, face);
        Listing l = Listing.withNumbers(x);
        CHECK.text("of a class", "17 m2 (J)Lp0/T4; 2: Code 31 3 3 19: "
                + "42 180 13 3 185 24 2 0 192 4 22 1 182 26 176 [] 0 Exceptions 4 [29]", l.methods.get(1));
        CHECK.text("of an interface", "17 m2 (JJ)J 1: Code 35 5 5 23: "
                + "42 180 13 4 185 24 2 0 192 6 22 1 22 3 185 32 5 0 173 [] 0", l.methods.get(2));
        pool("entries", "m2, (J)Lp0/T4;, px/Callback, #19, to, (I)Ljava/lang/Object;, 21:22, 11 20.23, 17:18, 10 4.25, "
                + "Exceptions, java/lang/RuntimeException, #28, (JJ)J, 17:30, 11 6.31", l, 17, l.pool.size());
        Renewed y = new Renewed();
        int parent = Make.base(y, 1, 0, 0);
        int child = Make.base(y, 1, 0, parent);
        y.method(parent, 2, 1, 0, 0);
        y.policy(2, 3);
        Make.forge(y, child);
        l = Listing.withNumbers(y);
        pool("the slot's type is not C", "m2, px/Callback, #16, to, (I)Ljava/lang/Object;, 18:19, 11 17.20, "
                + "p0/T4, #22, 15:12, 10 23.24", l, 15, l.pool.size());
    }

    private static void superEntries() {
        CHECK.of("SUPER: entries in the order of the telling");
        Renewed x = new Renewed();
        int parent = x.type(false, 1, 0, 0);
        int type = Make.base(x, 1, 0, parent);
        int face = x.type(true, 1, 0, 0);
        x.method(parent, 1, 1, 0, 2);
        x.method(face, 1, 1, 2, 0);
        x.policy(1, 2);
        Make.forge(x, type, face);
        Listing l = Listing.withNumbers(x);
        CHECK.text("of a parent", "17 m1 ()J 1: Code 17 2 1 5: 42 183 20 173 [] 0", l.methods.get(1));
        CHECK.text("of an interface of I", "17 m1 (J)V 1: Code 19 3 3 7: 42 22 1 183 23 177 [] 0", l.methods.get(2));
        pool("entries", "m1, ()J, 17:18, 10 4.19, (J)V, 17:21, 11 6.22", l, 17, l.pool.size());
    }
}
