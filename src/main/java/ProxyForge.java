import java.util.Arrays;

/**
 * Proxies made at run time: the methods of a class and interfaces that can be overridden are collected, a class
 * file that overrides them is written, its methods are called, and its bytes, changed or not, are read.
 */
public final class ProxyForge {
    public static final int NONE = -1;

    private static final int NAMES = 10;

    private final Types types;
    private final Methods methods;
    private final Collector collector;
    private final Proxy proxy;
    private final Callback callback;
    private final Caller caller;
    private final Bytes file;
    private final Writer writer;
    private final Reader reader;
    private final int[] policies;

    public ProxyForge() {
        types = new Types();
        methods = new Methods(types);
        collector = new Collector(types, methods);
        proxy = new Proxy();
        callback = new Callback();
        caller = new Caller(types, methods, proxy, callback);
        file = new Bytes();
        writer = new Writer(types, methods, collector, proxy, file);
        reader = new Reader(file);
        policies = new int[NAMES];
    }

    public int type(boolean isInterface, int flags, int pack, int parent)
            throws IllegalArgumentException, IllegalStateException {
        if (!types.mayBe(isInterface, flags, pack, parent)) {
            throw new IllegalArgumentException();
        }
        if (types.count >= Types.MOST) {
            throw new IllegalStateException();
        }
        return types.add(isInterface, flags, pack, parent);
    }

    public void implement(int type, int face) throws IllegalArgumentException {
        if (!types.mayImplement(type, face)) {
            throw new IllegalArgumentException();
        }
        types.addFace(type, face);
    }

    public int method(int type, int name, int flags, int parameters, int returned)
            throws IllegalArgumentException, IllegalStateException {
        if (!methods.mayBe(type, name, flags, parameters, returned)) {
            throw new IllegalArgumentException();
        }
        if (methods.count >= Methods.MOST) {
            throw new IllegalStateException();
        }
        return methods.add(type, name, flags, parameters, returned);
    }

    public void throwing(int method, int type) throws IllegalArgumentException {
        if (!methods.mayThrow(method, type)) {
            throw new IllegalArgumentException();
        }
        methods.addThrown(method, type);
    }

    public boolean isSubtype(int type, int of) {
        return types.has(type) && types.has(of) && types.isBelow(type, of);
    }

    public boolean policy(int name, int kind) {
        if (name < 0 || name >= NAMES || kind < Proxy.INTERCEPTED || kind > Proxy.DISPATCHED) {
            return false;
        }
        policies[name] = kind;
        return true;
    }

    public int forge(int type, int first, int second, int third) throws IllegalArgumentException {
        if (!types.has(type) || !areFacesInOrder(first, second, third)) {
            throw new IllegalArgumentException();
        }
        collector.ask(type, first, second, third);
        int refused = collector.refusal();
        if (refused != 0) {
            return refused;
        }
        proxy.take(collector, methods, policies);
        writer.begin();
        for (int m = 0; m < methods.count; m++) {
            if (methods.isOpenConstructor(m, type)) {
                writer.constructor(m);
            }
        }
        for (int k = 0; k < proxy.count; k++) {
            writer.override(k);
        }
        writer.end();
        return 0;
    }

    public int slots() {
        return proxy.count;
    }

    public int slot(int k) {
        return proxy.has(k) ? proxy.methodOf[k] : NONE;
    }

    public void answer(int kind, long value) throws IllegalArgumentException {
        if (!isAnswer(kind, value)) {
            throw new IllegalArgumentException();
        }
        callback.learn(kind, value);
    }

    public int call(int slot, long a, long b, long c, long d) throws IllegalArgumentException {
        if (!proxy.has(slot)) {
            throw new IllegalArgumentException();
        }
        caller.arguments[0] = a;
        caller.arguments[1] = b;
        caller.arguments[2] = c;
        caller.arguments[3] = d;
        return caller.outcome(slot);
    }

    public long result() {
        return caller.latest;
    }

    public int asked() {
        return callback.lastSlot;
    }

    public long given(int i, int what) {
        if (i < 0 || i >= callback.boxes) {
            return NONE;
        }
        if (what == 0) {
            return callback.boxKinds[i];
        }
        return what == 1 ? callback.boxNumbers[i] : NONE;
    }

    public int size() {
        return file.used;
    }

    public int byteAt(int k) {
        return file.has(k) ? file.get(k) : NONE;
    }

    public boolean change(int k, int b) {
        if (!file.has(k)) {
            return false;
        }
        file.set(k, b);
        return true;
    }

    public boolean cut(int n) {
        if (n < 0 || n > file.used) {
            return false;
        }
        file.used = n;
        return true;
    }

    public int read() {
        return reader.firstFault();
    }

    private boolean areFacesInOrder(int first, int second, int third) {
        if (first == NONE) {
            return second == NONE && third == NONE;
        }
        if (second == NONE) {
            return types.has(first) && third == NONE;
        }
        return types.has(first) && types.has(second) && (third == NONE || types.has(third));
    }

    private boolean isAnswer(int kind, long value) {
        if (kind == Callback.OBJECT) {
            return types.has(value);
        }
        if (kind == Callback.THROW) {
            return types.has(value) && types.isBelow((int) value, Types.THROWABLE);
        }
        return kind >= Callback.NULL && kind <= Callback.BOOLEAN;
    }

    /** What is told of kinds: as digits of a method's parameters, on the stack, and as boxes. */
    private static final class Kinds {
        static final int NOTHING = 0;
        static final int INT = 1;
        static final int LONG = 2;
        static final int BOOLEAN = 3;
        static final int FIRST_TYPE = 4;
        static final int MOST_PARAMETERS = 4;

        private static final int DIGIT_BITS = 5;
        private static final int DIGIT = 31;

        static int digit(int parameters, int i) {
            return (parameters >>> (DIGIT_BITS * i)) & DIGIT;
        }

        static int above(int parameters, int i) {
            return parameters >>> (DIGIT_BITS * i);
        }

        static int howMany(int parameters) {
            int n = 0;
            while (n < MOST_PARAMETERS && digit(parameters, n) != NOTHING) {
                n++;
            }
            return n;
        }

        static int width(int kind) {
            if (kind == NOTHING) {
                return 0;
            }
            return kind == LONG ? 2 : 1;
        }

        static int widthOfAll(int parameters) {
            int sum = 0;
            for (int i = 0; i < MOST_PARAMETERS; i++) {
                sum += width(digit(parameters, i));
            }
            return sum;
        }

        static String boxClass(int kind) {
            if (kind == INT) {
                return "java/lang/Integer";
            }
            return kind == LONG ? "java/lang/Long" : "java/lang/Boolean";
        }

        static String boxingDescriptor(int kind) {
            if (kind == INT) {
                return "(I)Ljava/lang/Integer;";
            }
            return kind == LONG ? "(J)Ljava/lang/Long;" : "(Z)Ljava/lang/Boolean;";
        }

        static String unboxingName(int kind) {
            if (kind == INT) {
                return "intValue";
            }
            return kind == LONG ? "longValue" : "booleanValue";
        }

        static String unboxingDescriptor(int kind) {
            if (kind == INT) {
                return "()I";
            }
            return kind == LONG ? "()J" : "()Z";
        }
    }

    /** The classes and interfaces. */
    private static final class Types {
        static final int MOST = 20;
        static final int OBJECT = 0;
        static final int THROWABLE = 1;
        static final int ERROR = 2;
        static final int RUNTIME_EXCEPTION = 3;
        static final int FIRST_MADE = 4;
        static final int PACKAGES = 4;
        static final int NO_PACKAGE = 4;

        private static final int MOST_FACES = 4;
        private static final int PUBLIC = 1;
        private static final int FINAL = 2;
        private static final int ABSTRACT = 4;
        private static final int ALL_FLAGS = 7;

        private final boolean[] isInterface = new boolean[MOST];
        private final int[] flags = new int[MOST];
        private final int[] pack = new int[MOST];
        private final int[] parent = new int[MOST];
        // A bit for each type of which this one is a subtype: many paths through interfaces lead to the same one.
        private final int[] supers = new int[MOST];
        private final int[] faceCount = new int[MOST];
        private final int[] faces = new int[MOST * MOST_FACES];
        private int count;

        Types() {
            add(false, PUBLIC, NO_PACKAGE, NONE);
            add(false, PUBLIC, NO_PACKAGE, OBJECT);
            add(false, PUBLIC, NO_PACKAGE, THROWABLE);
            add(false, PUBLIC, NO_PACKAGE, THROWABLE);
        }

        boolean has(long type) {
            return type >= 0 && type < count;
        }

        boolean isMade(int type) {
            return type >= FIRST_MADE && type < count;
        }

        boolean isBelow(int type, int of) {
            return ((supers[type] >>> of) & 1) != 0;
        }

        boolean isPublic(int type) {
            return (flags[type] & PUBLIC) != 0;
        }

        boolean isFinal(int type) {
            return (flags[type] & FINAL) != 0;
        }

        boolean isAbstract(int type) {
            return (flags[type] & ABSTRACT) != 0;
        }

        int face(int type, int i) {
            return faces[type * MOST_FACES + i];
        }

        boolean mayBe(boolean asInterface, int newFlags, int newPack, int newParent) {
            int restricting = newFlags & (FINAL | ABSTRACT);
            if (newFlags < 0 || newFlags > ALL_FLAGS || restricting == (FINAL | ABSTRACT)) {
                return false;
            }
            if (asInterface && (restricting != 0 || newParent != OBJECT)) {
                return false;
            }
            if (newPack < 0 || newPack >= PACKAGES || !has(newParent)) {
                return false;
            }
            return !isInterface[newParent] && !isFinal(newParent);
        }

        int add(boolean asInterface, int newFlags, int newPack, int newParent) {
            int type = count;
            isInterface[type] = asInterface;
            flags[type] = newFlags;
            pack[type] = newPack;
            parent[type] = newParent;
            supers[type] = 1 << type;
            if (has(newParent)) {
                supers[type] |= supers[newParent];
            }
            count++;
            return type;
        }

        boolean mayImplement(int type, int face) {
            if (!isMade(type) || !isMade(face) || !isInterface[face]) {
                return false;
            }
            for (int i = 0; i < faceCount[type]; i++) {
                if (face(type, i) == face) {
                    return false;
                }
            }
            return faceCount[type] < MOST_FACES && !isBelow(face, type);
        }

        void addFace(int type, int face) {
            faces[type * MOST_FACES + faceCount[type]] = face;
            faceCount[type]++;
            for (int t = 0; t < count; t++) {
                if (isBelow(t, type)) {
                    supers[t] |= supers[face];
                }
            }
        }
    }

    /** The methods and constructors of all types. */
    private static final class Methods {
        static final int MOST = 60;
        static final int CONSTRUCTOR = 10;
        static final int PUBLIC = 1;
        static final int PROTECTED = 2;
        static final int PRIVATE = 4;
        static final int STATIC = 8;
        static final int FINAL = 16;
        static final int ABSTRACT = 32;

        private static final int ACCESS = PUBLIC | PROTECTED | PRIVATE;
        private static final int ALL_FLAGS = 63;
        private static final int MOST_THROWN = 3;

        private final Types types;
        private final int[] ofType = new int[MOST];
        private final int[] name = new int[MOST];
        private final int[] flags = new int[MOST];
        private final int[] parameters = new int[MOST];
        private final int[] returned = new int[MOST];
        private final int[] thrownCount = new int[MOST];
        private final int[] thrown = new int[MOST * MOST_THROWN];
        private int count;

        Methods(Types types) {
            this.types = types;
            for (int type = 0; type < Types.FIRST_MADE; type++) {
                add(type, CONSTRUCTOR, PUBLIC, 0, Kinds.NOTHING);
            }
        }

        boolean hasFlag(int m, int flag) {
            return (flags[m] & flag) != 0;
        }

        boolean isPackage(int m) {
            return (flags[m] & ACCESS) == 0;
        }

        boolean isOpenConstructor(int m, int type) {
            return ofType[m] == type && name[m] == CONSTRUCTOR && !hasFlag(m, PRIVATE);
        }

        boolean hasOpenConstructor(int type) {
            for (int m = 0; m < count; m++) {
                if (isOpenConstructor(m, type)) {
                    return true;
                }
            }
            return false;
        }

        boolean isSame(int m, int otherName, int otherParameters, int otherReturned) {
            return name[m] == otherName && parameters[m] == otherParameters && returned[m] == otherReturned;
        }

        boolean mayBe(int type, int newName, int newFlags, int newParameters, int newReturned) {
            if (!types.isMade(type) || newName < 0 || newName > CONSTRUCTOR) {
                return false;
            }
            if (!mayHaveFlags(type, newFlags) || !areParameters(newParameters)) {
                return false;
            }
            if (newReturned != Kinds.NOTHING && !isKind(newReturned)) {
                return false;
            }
            if (newName == CONSTRUCTOR && !mayConstruct(type, newFlags, newReturned)) {
                return false;
            }
            for (int m = 0; m < count; m++) {
                if (ofType[m] == type && isSame(m, newName, newParameters, newReturned)) {
                    return false;
                }
            }
            return true;
        }

        int add(int type, int newName, int newFlags, int newParameters, int newReturned) {
            int m = count;
            ofType[m] = type;
            name[m] = newName;
            flags[m] = newFlags;
            parameters[m] = newParameters;
            returned[m] = newReturned;
            count++;
            return m;
        }

        int thrownBy(int m, int i) {
            return thrown[m * MOST_THROWN + i];
        }

        boolean mayThrow(int m, int type) {
            if (m < Types.FIRST_MADE || m >= count) {
                return false;
            }
            if (!types.has(type) || !types.isBelow(type, Types.THROWABLE)) {
                return false;
            }
            return thrownCount[m] < MOST_THROWN && !throwsAmongFirst(m, thrownCount[m], type);
        }

        boolean throwsAmongFirst(int m, int howMany, int type) {
            for (int i = 0; i < howMany; i++) {
                if (thrownBy(m, i) == type) {
                    return true;
                }
            }
            return false;
        }

        void addThrown(int m, int type) {
            thrown[m * MOST_THROWN + thrownCount[m]] = type;
            thrownCount[m]++;
        }

        private boolean mayHaveFlags(int type, int newFlags) {
            if (newFlags < 0 || newFlags > ALL_FLAGS || Integer.bitCount(newFlags & ACCESS) > 1) {
                return false;
            }
            if (types.isInterface[type]) {
                return (newFlags & ~ABSTRACT) == PUBLIC;
            }
            if ((newFlags & ABSTRACT) == 0) {
                return true;
            }
            return types.isAbstract(type) && (newFlags & (PRIVATE | STATIC | FINAL)) == 0;
        }

        private boolean mayConstruct(int type, int newFlags, int newReturned) {
            return !types.isInterface[type] && (newFlags & ~ACCESS) == 0 && newReturned == Kinds.NOTHING;
        }

        private boolean isKind(int kind) {
            return kind >= Kinds.INT && (kind < Kinds.FIRST_TYPE || types.has(kind - Kinds.FIRST_TYPE));
        }

        private boolean areParameters(int newParameters) {
            int n = Kinds.howMany(newParameters);
            for (int i = 0; i < n; i++) {
                if (!isKind(Kinds.digit(newParameters, i))) {
                    return false;
                }
            }
            return Kinds.above(newParameters, n) == 0;
        }
    }

    /** Finds the slots of a class and interfaces, or why there can be no proxy of them. */
    private static final class Collector {
        private static final int MOST_FACES = 3;

        private final Types types;
        private final Methods methods;
        private final int[] faces = new int[MOST_FACES];
        private final int[] order = new int[Types.MOST];
        private final int[] counted = new int[Methods.MOST];
        private final int[] found = new int[Methods.MOST];
        private int base;
        private int faceCount;
        // A bit for each interface: whether it was met, and whether it was not before those asked for.
        private int met;
        private int metByFaces;
        private int orderCount;
        private int countedCount;
        private int foundCount;

        Collector(Types types, Methods methods) {
            this.types = types;
            this.methods = methods;
        }

        void ask(int type, int first, int second, int third) {
            base = type;
            faces[0] = first;
            faces[1] = second;
            faces[2] = third;
            faceCount = 0;
            while (faceCount < MOST_FACES && faces[faceCount] != NONE) {
                faceCount++;
            }
        }

        int refusal() {
            if (types.isInterface[base] || types.isFinal(base)) {
                return 1;
            }
            if (!methods.hasOpenConstructor(base)) {
                return 2;
            }
            if (!areDifferentInterfaces()) {
                return 3;
            }
            if (!areFacesVisible()) {
                return 4;
            }
            meetAll();
            collectAll();
            if (hasClash()) {
                return 5;
            }
            return foundCount > Proxy.MOST_SLOTS ? 6 : 0;
        }

        /** Of the interfaces asked for, the one by which a type was met; NONE if the class itself led to it. */
        int faceThatMet(int type) {
            if (((metByFaces >>> type) & 1) == 0) {
                return NONE;
            }
            for (int i = 0; i < faceCount; i++) {
                if (types.isBelow(faces[i], type)) {
                    return faces[i];
                }
            }
            return NONE;
        }

        private boolean areDifferentInterfaces() {
            for (int i = 0; i < faceCount; i++) {
                if (!types.isInterface[faces[i]]) {
                    return false;
                }
                for (int j = 0; j < i; j++) {
                    if (faces[i] == faces[j]) {
                        return false;
                    }
                }
            }
            return true;
        }

        private boolean areFacesVisible() {
            for (int i = 0; i < faceCount; i++) {
                if (!types.isPublic(faces[i]) && types.pack[faces[i]] != types.pack[base]) {
                    return false;
                }
            }
            return true;
        }

        private void meetAll() {
            met = 0;
            orderCount = 0;
            for (int type = base; type != NONE && orderCount < Types.MOST; type = types.parent[type]) {
                order[orderCount] = type;
                orderCount++;
            }
            int classes = orderCount;
            for (int i = 0; i < classes; i++) {
                for (int j = 0; j < types.faceCount[order[i]]; j++) {
                    meet(types.face(order[i], j), 0);
                }
            }
            int metByClass = met;
            for (int i = 0; i < faceCount; i++) {
                meet(faces[i], 0);
            }
            metByFaces = met & ~metByClass;
        }

        private void meet(int face, int depth) {
            if (((met >>> face) & 1) != 0 || depth >= Types.MOST || orderCount >= Types.MOST) {
                return;
            }
            met |= 1 << face;
            order[orderCount] = face;
            orderCount++;
            for (int i = 0; i < types.faceCount[face]; i++) {
                meet(types.face(face, i), depth + 1);
            }
        }

        private void collectAll() {
            countedCount = 0;
            foundCount = 0;
            for (int i = 0; i < orderCount; i++) {
                for (int m = 0; m < methods.count; m++) {
                    if (methods.ofType[m] == order[i] && isInherited(m) && !isCounted(m)) {
                        count(m);
                    }
                }
            }
        }

        private boolean isInherited(int m) {
            if (methods.name[m] == Methods.CONSTRUCTOR || methods.hasFlag(m, Methods.STATIC | Methods.PRIVATE)) {
                return false;
            }
            return !methods.isPackage(m) || types.pack[methods.ofType[m]] == types.pack[base];
        }

        private boolean isCounted(int m) {
            for (int i = 0; i < countedCount; i++) {
                if (methods.isSame(counted[i], methods.name[m], methods.parameters[m], methods.returned[m])) {
                    return true;
                }
            }
            return false;
        }

        private void count(int m) {
            counted[countedCount] = m;
            countedCount++;
            if (!methods.hasFlag(m, Methods.FINAL)) {
                found[foundCount] = m;
                foundCount++;
            }
        }

        private boolean hasClash() {
            for (int i = 0; i < foundCount; i++) {
                for (int j = 0; j < i; j++) {
                    if (clash(found[i], found[j])) {
                        return true;
                    }
                }
            }
            return false;
        }

        private boolean clash(int m, int other) {
            if (methods.name[m] != methods.name[other] || methods.parameters[m] != methods.parameters[other]) {
                return false;
            }
            int type = methods.returned[m] - Kinds.FIRST_TYPE;
            int otherType = methods.returned[other] - Kinds.FIRST_TYPE;
            if (type < 0 || otherType < 0) {
                return type != otherType;
            }
            return !types.isBelow(type, otherType) && !types.isBelow(otherType, type);
        }
    }

    /** The proxy's slots, with what was settled when it was made. */
    private static final class Proxy {
        static final int MOST_SLOTS = 24;
        static final int INTERCEPTED = 0;
        static final int FIXED = 1;
        static final int SUPER = 2;
        static final int DISPATCHED = 3;

        private final int[] methodOf = new int[MOST_SLOTS];
        private final int[] policyOf = new int[MOST_SLOTS];
        // What a method throws only grows, so how many these were tells which.
        private final int[] thrownOf = new int[MOST_SLOTS];
        private int count;

        boolean has(int k) {
            return k >= 0 && k < count;
        }

        void take(Collector collector, Methods methods, int[] policies) {
            count = Math.min(collector.foundCount, MOST_SLOTS);
            for (int k = 0; k < count; k++) {
                int m = collector.found[k];
                methodOf[k] = m;
                policyOf[k] = policies[methods.name[m]];
                thrownOf[k] = methods.thrownCount[m];
            }
        }
    }

    /** What the callback will answer, and what it was asked. */
    private static final class Callback {
        static final int NULL = 0;
        static final int INTEGER = 1;
        static final int LONG = 2;
        static final int BOOLEAN = 3;
        static final int OBJECT = 4;
        static final int THROW = 5;

        private final int[] boxKinds = new int[Kinds.MOST_PARAMETERS];
        private final long[] boxNumbers = new long[Kinds.MOST_PARAMETERS];
        private int boxes;
        private int lastSlot = NONE;
        private int kind = NULL;
        private long value;

        void learn(int newKind, long newValue) {
            kind = newKind;
            value = newValue;
            if (newKind == INTEGER) {
                value = (int) newValue;
            } else if (newKind == BOOLEAN) {
                value = newValue & 1;
            }
        }

        void take(int i, int boxKind, long number) {
            boxKinds[i] = boxKind;
            boxNumbers[i] = number;
        }
    }

    /** Calls slots as the proxy's code would. */
    private static final class Caller {
        private static final int RETURNED = 0;
        private static final int THROWN = 1;
        private static final int NULL_POINTER = 2;
        private static final int CLASS_CAST = 3;
        private static final int UNDECLARED = 4;
        private static final int ABSTRACT = 5;

        private final Types types;
        private final Methods methods;
        private final Proxy proxy;
        private final Callback callback;
        private final long[] arguments = new long[Kinds.MOST_PARAMETERS];
        private long latest;

        Caller(Types types, Methods methods, Proxy proxy, Callback callback) {
            this.types = types;
            this.methods = methods;
            this.proxy = proxy;
            this.callback = callback;
        }

        int outcome(int k) {
            int m = proxy.methodOf[k];
            int policy = proxy.policyOf[k];
            if (policy == Proxy.SUPER) {
                return original(m);
            }
            callback.lastSlot = k;
            if (policy == Proxy.INTERCEPTED) {
                give(methods.parameters[m]);
            }
            if (callback.kind == Callback.THROW) {
                boolean wrapped = policy == Proxy.INTERCEPTED && !isDeclared(k, (int) callback.value);
                return end(wrapped ? UNDECLARED : THROWN, callback.value);
            }
            return policy == Proxy.DISPATCHED ? dispatched(m) : unboxed(methods.returned[m]);
        }

        private int end(int outcome, long number) {
            latest = number;
            return outcome;
        }

        private int original(int m) {
            if (methods.hasFlag(m, Methods.ABSTRACT)) {
                return end(ABSTRACT, 0);
            }
            return end(RETURNED, methods.returned[m] >= Kinds.FIRST_TYPE ? NONE : 0);
        }

        private int dispatched(int m) {
            if (callback.kind == Callback.NULL) {
                return end(NULL_POINTER, 0);
            }
            if (callback.kind != Callback.OBJECT || !types.isBelow((int) callback.value, methods.ofType[m])) {
                return end(CLASS_CAST, 0);
            }
            return original(m);
        }

        private int unboxed(int returned) {
            if (returned == Kinds.NOTHING) {
                return end(RETURNED, 0);
            }
            if (returned >= Kinds.FIRST_TYPE) {
                return castTo(returned - Kinds.FIRST_TYPE);
            }
            if (callback.kind == Callback.NULL) {
                return end(NULL_POINTER, 0);
            }
            // The boxes that a callback answers have the numbers of the kinds that they hold.
            return callback.kind == returned ? end(RETURNED, callback.value) : end(CLASS_CAST, 0);
        }

        private int castTo(int type) {
            if (callback.kind == Callback.NULL) {
                return end(RETURNED, NONE);
            }
            if (callback.kind == Callback.OBJECT) {
                boolean fits = types.isBelow((int) callback.value, type);
                return fits ? end(RETURNED, callback.value) : end(CLASS_CAST, 0);
            }
            // A box that is returned is told by -2 Integer, -3 Long, -4 Boolean.
            return type == Types.OBJECT ? end(RETURNED, -1 - callback.kind) : end(CLASS_CAST, 0);
        }

        private boolean isDeclared(int k, int type) {
            if (types.isBelow(type, Types.ERROR) || types.isBelow(type, Types.RUNTIME_EXCEPTION)) {
                return true;
            }
            for (int i = 0; i < proxy.thrownOf[k]; i++) {
                if (types.isBelow(type, methods.thrownBy(proxy.methodOf[k], i))) {
                    return true;
                }
            }
            return false;
        }

        private void give(int parameters) {
            callback.boxes = Kinds.howMany(parameters);
            for (int i = 0; i < callback.boxes; i++) {
                int kind = Kinds.digit(parameters, i);
                long argument = arguments[i];
                if (kind == Kinds.INT) {
                    callback.take(i, Callback.INTEGER, (int) argument);
                } else if (kind == Kinds.LONG) {
                    callback.take(i, Callback.LONG, argument);
                } else if (kind == Kinds.BOOLEAN) {
                    callback.take(i, Callback.BOOLEAN, argument & 1);
                } else {
                    callback.take(i, types.has(argument) ? Callback.OBJECT + (int) argument : Callback.NULL, 0);
                }
            }
        }
    }

    /** A row of bytes that grows, and is used again. */
    private static final class Bytes {
        private static final int AT_FIRST = 512;

        private byte[] row = new byte[AT_FIRST];
        private int used;

        boolean has(int k) {
            return k >= 0 && k < used;
        }

        int get(int k) {
            return row[k] & 255;
        }

        int getTwo(int k) {
            return (get(k) << 8) | get(k + 1);
        }

        void set(int k, int b) {
            row[k] = (byte) b;
        }

        void setTwo(int k, int n) {
            set(k, n >>> 8);
            set(k + 1, n);
        }

        void setFour(int k, int n) {
            setTwo(k, n >>> 16);
            setTwo(k + 2, n);
        }

        void one(int b) {
            if (used >= row.length) {
                row = Arrays.copyOf(row, 2 * row.length);
            }
            row[used] = (byte) b;
            used++;
        }

        void two(int n) {
            one(n >>> 8);
            one(n);
        }

        void three(int b, int n) {
            if (row.length - used < 3) {
                row = Arrays.copyOf(row, 2 * row.length);
            }
            row[used] = (byte) b;
            row[used + 1] = (byte) (n >>> 8);
            row[used + 2] = (byte) n;
            used += 3;
        }

        void four(int n) {
            two(n >>> 16);
            two(n);
        }

        void letters(String text) {
            int n = text.length();
            if (n > row.length - used) {
                row = Arrays.copyOf(row, 2 * row.length + n);
            }
            for (int i = 0; i < n; i++) {
                row[used + i] = (byte) text.charAt(i);
            }
            used += n;
        }

        void addAll(Bytes others) {
            int n = others.used;
            if (n > row.length - used) {
                row = Arrays.copyOf(row, 2 * row.length + n);
            }
            System.arraycopy(others.row, 0, row, used, n);
            used += n;
        }

        /** Whether all bytes from a start on stand at an earlier place, too. */
        boolean repeats(int earlier, int start) {
            for (int i = 0; start + i < used; i++) {
                if (row[earlier + i] != row[start + i]) {
                    return false;
                }
            }
            return true;
        }

        boolean spells(int place, int length, String text) {
            if (length != text.length() || length > used - place) {
                return false;
            }
            for (int i = 0; i < length; i++) {
                if (get(place + i) != text.charAt(i)) {
                    return false;
                }
            }
            return true;
        }
    }

    /** The file's pool: an entry is written behind the others, and taken back if it was there already. */
    private static final class Pool {
        static final int TEXT = 1;
        static final int CLASS = 7;
        static final int FIELD = 9;
        static final int METHOD = 10;
        static final int INTERFACE_METHOD = 11;
        static final int NAME_AND_TYPE = 12;
        static final int TEXT_HEAD = 3;

        private static final int BUCKETS = 64;
        private static final int AT_FIRST = 128;

        private final Types types;
        private final Bytes file;
        // Entries whose bytes have the same sum are chained from the newest on, so that few are compared.
        private final int[] newest = new int[BUCKETS];
        private int[] before = new int[AT_FIRST];
        private int[] places = new int[AT_FIRST];
        private int count;

        Pool(Types types, Bytes file) {
            this.types = types;
            this.file = file;
        }

        void clear() {
            Arrays.fill(newest, 0);
            count = 0;
        }

        int text(String letters) {
            int start = file.used;
            file.three(TEXT, 0);
            file.letters(letters);
            return settled(start);
        }

        int methodName(int name) {
            if (name == Methods.CONSTRUCTOR) {
                return text("<init>");
            }
            int start = file.used;
            file.three(TEXT, 0);
            file.one('m');
            file.one('0' + name);
            return settled(start);
        }

        int descriptor(String firstLetters, int parameters, int returned) {
            int start = file.used;
            file.three(TEXT, 0);
            file.one('(');
            file.letters(firstLetters);
            int n = Kinds.howMany(parameters);
            for (int i = 0; i < n; i++) {
                kindLetters(Kinds.digit(parameters, i));
            }
            file.one(')');
            kindLetters(returned);
            return settled(start);
        }

        int classOf(int type) {
            int start = file.used;
            file.three(TEXT, 0);
            typeName(type);
            return single(CLASS, settled(start));
        }

        int proxyClass(int pack) {
            int start = file.used;
            file.three(TEXT, 0);
            file.one('p');
            file.one(pack == Types.NO_PACKAGE ? 'x' : '0' + pack);
            file.letters("/P");
            return single(CLASS, settled(start));
        }

        int single(int tag, int number) {
            int start = file.used;
            file.three(tag, number);
            return settled(start);
        }

        int pair(int tag, int first, int second) {
            int start = file.used;
            file.three(tag, first);
            file.two(second);
            return settled(start);
        }

        private void kindLetters(int kind) {
            if (kind == Kinds.NOTHING) {
                file.one('V');
            } else if (kind == Kinds.INT) {
                file.one('I');
            } else if (kind == Kinds.LONG) {
                file.one('J');
            } else if (kind == Kinds.BOOLEAN) {
                file.one('Z');
            } else {
                file.one('L');
                typeName(kind - Kinds.FIRST_TYPE);
                file.one(';');
            }
        }

        private void typeName(int type) {
            if (type == Types.OBJECT) {
                file.letters("java/lang/Object");
            } else if (type == Types.THROWABLE) {
                file.letters("java/lang/Throwable");
            } else if (type == Types.ERROR) {
                file.letters("java/lang/Error");
            } else if (type == Types.RUNTIME_EXCEPTION) {
                file.letters("java/lang/RuntimeException");
            } else {
                file.one('p');
                file.one('0' + types.pack[type]);
                file.letters("/T");
                if (type >= 10) {
                    file.one('0' + type / 10);
                }
                file.one('0' + type % 10);
            }
        }

        /** The number of the entry that was written from a start on, or of the same one before it. */
        private int settled(int start) {
            if (file.get(start) == TEXT) {
                int length = file.used - start - TEXT_HEAD;
                file.set(start + 1, length >>> 8);
                file.set(start + 2, length);
            }
            int sum = 0;
            for (int i = start; i < file.used; i++) {
                sum = 31 * sum + file.get(i);
            }
            int bucket = sum & (BUCKETS - 1);
            int entry = newest[bucket];
            for (int left = count; left > 0 && entry > 0; left--) {
                if (file.repeats(places[entry], start)) {
                    file.used = start;
                    return entry;
                }
                entry = before[entry];
            }
            count++;
            if (count >= places.length) {
                before = Arrays.copyOf(before, 2 * count);
                places = Arrays.copyOf(places, 2 * count);
            }
            places[count] = start;
            before[count] = newest[bucket];
            newest[bucket] = count;
            return count;
        }
    }

    /** Writes the proxy's class file. */
    private static final class Writer {
        private static final int COUNT_PLACE = 8;
        private static final String CALLBACK = "px/Callback";
        private static final String CALLBACK_LETTERS = "Lpx/Callback;";
        private static final String ON_DESCRIPTOR =
                "(Ljava/lang/Object;I[Ljava/lang/Object;)Ljava/lang/Object;";
        private static final String NUMBERED_DESCRIPTOR = "(I)Ljava/lang/Object;";
        private static final String WRAPPER = "java/lang/reflect/UndeclaredThrowableException";

        private static final int ACONST_NULL = 1;
        private static final int ICONST_0 = 3;
        private static final int BIPUSH = 16;
        private static final int ILOAD = 21;
        private static final int LLOAD = 22;
        private static final int ALOAD = 25;
        private static final int ALOAD_0 = 42;
        private static final int ALOAD_1 = 43;
        private static final int ASTORE = 58;
        private static final int AASTORE = 83;
        private static final int POP = 87;
        private static final int DUP = 89;
        private static final int IRETURN = 172;
        private static final int LRETURN = 173;
        private static final int ARETURN = 176;
        private static final int RETURN = 177;
        private static final int GETFIELD = 180;
        private static final int PUTFIELD = 181;
        private static final int INVOKEVIRTUAL = 182;
        private static final int INVOKESPECIAL = 183;
        private static final int INVOKESTATIC = 184;
        private static final int INVOKEINTERFACE = 185;
        private static final int NEW = 187;
        private static final int ANEWARRAY = 189;
        private static final int ATHROW = 191;
        private static final int CHECKCAST = 192;

        private static final int ACCESS_FINAL = 16;
        private static final int MOST_SHORT_PUSH = 5;
        private static final int MOST_SHORT_FRAME = 63;

        private final Types types;
        private final Methods methods;
        private final Collector collector;
        private final Proxy proxy;
        private final Bytes file;
        // What stands behind the pool is written apart, as the pool grows meanwhile.
        private final Bytes body = new Bytes();
        private final Pool pool;
        private int proxyClass;
        private int fieldName;
        private int fieldDescriptor;
        private int ownName;
        private int ownDescriptor;
        private int attributeStart;
        private int codeStart;
        private int depth;
        private int deepest;

        Writer(Types types, Methods methods, Collector collector, Proxy proxy, Bytes file) {
            this.types = types;
            this.methods = methods;
            this.collector = collector;
            this.proxy = proxy;
            this.file = file;
            this.pool = new Pool(types, file);
        }

        void begin() {
            file.used = 0;
            file.four(0xCAFEBABE);
            file.two(0);
            file.two(52);
            file.two(0);
            pool.clear();
            body.used = 0;
            body.two(49);
            proxyClass = pool.proxyClass(types.pack[collector.base]);
            body.two(proxyClass);
            body.two(pool.classOf(collector.base));
            body.two(collector.faceCount);
            for (int i = 0; i < collector.faceCount; i++) {
                body.two(pool.classOf(collector.faces[i]));
            }
            body.two(1);
            body.two(2);
            fieldName = pool.text("cb");
            fieldDescriptor = pool.text(CALLBACK_LETTERS);
            body.two(fieldName);
            body.two(fieldDescriptor);
            body.two(0);
            body.two(constructorCount() + proxy.count);
        }

        void constructor(int m) {
            int parameters = methods.parameters[m];
            int width = Kinds.widthOfAll(parameters);
            head(m, 0, CALLBACK_LETTERS, 1);
            startCode(2 + width);
            op(ALOAD_0, 1);
            op(ALOAD_1, 1);
            opEntry(PUTFIELD, callbackField(), -2);
            op(ALOAD_0, 1);
            load(parameters, 2);
            int owner = pool.classOf(collector.base);
            int named = pool.pair(Pool.NAME_AND_TYPE, ownName, pool.descriptor("", parameters, Kinds.NOTHING));
            opEntry(INVOKESPECIAL, pool.pair(Pool.METHOD, owner, named), -1 - width);
            op(RETURN, 0);
            endInstructions();
            noHandlers();
            endCode();
        }

        void override(int k) {
            int m = proxy.methodOf[k];
            int thrown = proxy.thrownOf[k];
            int behind = 1 + Kinds.widthOfAll(methods.parameters[m]);
            boolean guarded = proxy.policyOf[k] == Proxy.INTERCEPTED
                    && !methods.throwsAmongFirst(m, thrown, Types.THROWABLE);
            head(m, ACCESS_FINAL, "", thrown > 0 ? 2 : 1);
            startCode(guarded ? behind + 1 : behind);
            switch (proxy.policyOf[k]) {
                case Proxy.INTERCEPTED:
                    askOn(k, methods.parameters[m]);
                    unboxed(methods.returned[m]);
                    break;
                case Proxy.FIXED:
                    askNumbered(k, "fixed");
                    unboxed(methods.returned[m]);
                    break;
                case Proxy.SUPER:
                    callSuper(m);
                    leave(methods.returned[m]);
                    break;
                default:
                    askNumbered(k, "to");
                    callDispatched(m);
                    leave(methods.returned[m]);
                    break;
            }
            int handler = body.used - codeStart;
            if (guarded) {
                rethrow(behind);
            }
            endInstructions();
            if (guarded) {
                handlers(m, thrown, handler);
                stackMap(handler);
            } else {
                noHandlers();
            }
            endCode();
            if (thrown > 0) {
                exceptions(m, thrown);
            }
        }

        void end() {
            body.two(0);
            file.setTwo(COUNT_PLACE, pool.count + 1);
            file.addAll(body);
        }

        private int constructorCount() {
            int n = 0;
            for (int m = 0; m < methods.count; m++) {
                if (methods.isOpenConstructor(m, collector.base)) {
                    n++;
                }
            }
            return n;
        }

        private void head(int m, int more, String firstLetters, int attributes) {
            int access = methods.hasFlag(m, Methods.PUBLIC) ? 1 : 0;
            if (methods.hasFlag(m, Methods.PROTECTED)) {
                access = 4;
            }
            ownName = pool.methodName(methods.name[m]);
            ownDescriptor = pool.descriptor(firstLetters, methods.parameters[m], methods.returned[m]);
            body.two(access + more);
            body.two(ownName);
            body.two(ownDescriptor);
            body.two(attributes);
        }

        // How deep and how long the code is, is known behind it: zeros hold these places until then.
        private void startCode(int locals) {
            body.two(pool.text("Code"));
            body.four(0);
            attributeStart = body.used;
            body.two(0);
            body.two(locals);
            body.four(0);
            codeStart = body.used;
            depth = 0;
            deepest = 0;
        }

        private void endInstructions() {
            body.setTwo(attributeStart, deepest);
            body.setFour(codeStart - 4, body.used - codeStart);
        }

        private void endCode() {
            body.setFour(attributeStart - 4, body.used - attributeStart);
        }

        private void noHandlers() {
            body.two(0);
            body.two(0);
        }

        private void handlers(int m, int thrown, int rethrowing) {
            body.two(3 + thrown);
            addHandler(rethrowing, rethrowing, Types.ERROR);
            addHandler(rethrowing, rethrowing, Types.RUNTIME_EXCEPTION);
            for (int i = 0; i < thrown; i++) {
                addHandler(rethrowing, rethrowing, methods.thrownBy(m, i));
            }
            addHandler(rethrowing, rethrowing + 1, Types.THROWABLE);
        }

        private void addHandler(int to, int at, int type) {
            body.two(0);
            body.two(to);
            body.two(at);
            body.two(pool.classOf(type));
        }

        private void stackMap(int handler) {
            body.two(1);
            body.two(pool.text("StackMapTable"));
            int throwable = pool.classOf(Types.THROWABLE);
            boolean isShort = handler <= MOST_SHORT_FRAME;
            body.four(isShort ? 10 : 12);
            body.two(2);
            if (isShort) {
                body.one(64 + handler);
            } else {
                body.three(247, handler);
            }
            body.three(7, throwable);
            body.one(64);
            body.three(7, throwable);
        }

        private void exceptions(int m, int thrown) {
            body.two(pool.text("Exceptions"));
            body.four(2 + 2 * thrown);
            body.two(thrown);
            for (int i = 0; i < thrown; i++) {
                body.two(pool.classOf(methods.thrownBy(m, i)));
            }
        }

        private void askOn(int k, int parameters) {
            op(ALOAD_0, 1);
            opEntry(GETFIELD, callbackField(), 0);
            op(ALOAD_0, 1);
            push(k);
            int n = Kinds.howMany(parameters);
            if (n == 0) {
                op(ACONST_NULL, 1);
            } else {
                push(n);
                opEntry(ANEWARRAY, pool.classOf(Types.OBJECT), 0);
            }
            int local = 1;
            for (int i = 0; i < n; i++) {
                int kind = Kinds.digit(parameters, i);
                op(DUP, 1);
                push(i);
                loadOne(kind, local);
                if (kind < Kinds.FIRST_TYPE) {
                    int boxing = member(Pool.METHOD, Kinds.boxClass(kind), "valueOf", Kinds.boxingDescriptor(kind));
                    opEntry(INVOKESTATIC, boxing, 1 - Kinds.width(kind));
                }
                op(AASTORE, -3);
                local += Kinds.width(kind);
            }
            opEntry(INVOKEINTERFACE, member(Pool.INTERFACE_METHOD, CALLBACK, "on", ON_DESCRIPTOR), -3);
            body.one(4);
            body.one(0);
        }

        private void askNumbered(int k, String name) {
            op(ALOAD_0, 1);
            opEntry(GETFIELD, callbackField(), 0);
            push(k);
            opEntry(INVOKEINTERFACE, member(Pool.INTERFACE_METHOD, CALLBACK, name, NUMBERED_DESCRIPTOR), -1);
            body.one(2);
            body.one(0);
        }

        private void callSuper(int m) {
            int face = collector.faceThatMet(methods.ofType[m]);
            op(ALOAD_0, 1);
            load(methods.parameters[m], 1);
            if (face == NONE) {
                opEntry(INVOKESPECIAL, ownMember(Pool.METHOD, collector.base), changeByCall(m));
            } else {
                opEntry(INVOKESPECIAL, ownMember(Pool.INTERFACE_METHOD, face), changeByCall(m));
            }
        }

        private void callDispatched(int m) {
            int type = methods.ofType[m];
            cast(type);
            load(methods.parameters[m], 1);
            if (types.isInterface[type]) {
                opEntry(INVOKEINTERFACE, ownMember(Pool.INTERFACE_METHOD, type), changeByCall(m));
                body.one(1 + Kinds.widthOfAll(methods.parameters[m]));
                body.one(0);
            } else {
                opEntry(INVOKEVIRTUAL, ownMember(Pool.METHOD, type), changeByCall(m));
            }
        }

        private int changeByCall(int m) {
            return Kinds.width(methods.returned[m]) - 1 - Kinds.widthOfAll(methods.parameters[m]);
        }

        private void unboxed(int kind) {
            if (kind == Kinds.NOTHING) {
                op(POP, -1);
            } else if (kind >= Kinds.FIRST_TYPE) {
                cast(kind - Kinds.FIRST_TYPE);
            } else {
                String box = Kinds.boxClass(kind);
                opEntry(CHECKCAST, pool.single(Pool.CLASS, pool.text(box)), 0);
                int unboxing = member(Pool.METHOD, box, Kinds.unboxingName(kind), Kinds.unboxingDescriptor(kind));
                opEntry(INVOKEVIRTUAL, unboxing, Kinds.width(kind) - 1);
            }
            leave(kind);
        }

        private void rethrow(int local) {
            depth = 1;
            op(ATHROW, -1);
            depth = 1;
            opByte(ASTORE, local, -1);
            opEntry(NEW, pool.single(Pool.CLASS, pool.text(WRAPPER)), 1);
            op(DUP, 1);
            opByte(ALOAD, local, 1);
            opEntry(INVOKESPECIAL, member(Pool.METHOD, WRAPPER, "<init>", "(Ljava/lang/Throwable;)V"), -2);
            op(ATHROW, -1);
        }

        private void cast(int type) {
            if (type != Types.OBJECT) {
                opEntry(CHECKCAST, pool.classOf(type), 0);
            }
        }

        private void leave(int kind) {
            int width = Kinds.width(kind);
            if (kind == Kinds.NOTHING) {
                op(RETURN, 0);
            } else if (kind == Kinds.LONG) {
                op(LRETURN, -width);
            } else {
                op(kind < Kinds.FIRST_TYPE ? IRETURN : ARETURN, -width);
            }
        }

        private void load(int parameters, int firstLocal) {
            int local = firstLocal;
            int n = Kinds.howMany(parameters);
            for (int i = 0; i < n; i++) {
                int kind = Kinds.digit(parameters, i);
                loadOne(kind, local);
                local += Kinds.width(kind);
            }
        }

        private void loadOne(int kind, int local) {
            if (kind == Kinds.LONG) {
                opByte(LLOAD, local, 2);
            } else {
                opByte(kind < Kinds.FIRST_TYPE ? ILOAD : ALOAD, local, 1);
            }
        }

        private void push(int n) {
            if (n <= MOST_SHORT_PUSH) {
                op(ICONST_0 + n, 1);
            } else {
                opByte(BIPUSH, n, 1);
            }
        }

        private int callbackField() {
            return pool.pair(Pool.FIELD, proxyClass, pool.pair(Pool.NAME_AND_TYPE, fieldName, fieldDescriptor));
        }

        private int member(int tag, String owner, String name, String descriptor) {
            int ownerClass = pool.single(Pool.CLASS, pool.text(owner));
            int nameText = pool.text(name);
            int named = pool.pair(Pool.NAME_AND_TYPE, nameText, pool.text(descriptor));
            return pool.pair(tag, ownerClass, named);
        }

        /** A method of a type with the name and descriptor of the one that is being written. */
        private int ownMember(int tag, int type) {
            int owner = pool.classOf(type);
            return pool.pair(tag, owner, pool.pair(Pool.NAME_AND_TYPE, ownName, ownDescriptor));
        }

        private void op(int code, int change) {
            body.one(code);
            moveDepth(change);
        }

        private void opByte(int code, int operand, int change) {
            body.one(code);
            body.one(operand);
            moveDepth(change);
        }

        private void opEntry(int code, int entry, int change) {
            body.three(code, entry);
            moveDepth(change);
        }

        private void moveDepth(int change) {
            depth += change;
            deepest = Math.max(deepest, depth);
        }
    }

    /** Reads the file up to its first fault; behind a fault nothing more is read. */
    private static final class Reader {
        private static final int PLACES_AT_FIRST = 128;

        private final Bytes file;
        private int[] places = new int[PLACES_AT_FIRST];
        private int entries;
        private int at;
        // Where the number that was read last begins.
        private int numberPlace;
        private int fault;

        Reader(Bytes file) {
            this.file = file;
        }

        int firstFault() {
            at = 0;
            entries = 0;
            fault = NONE;
            readHead();
            readPool();
            checkPool();
            readClass();
            int howMany = number(2);
            for (int i = 0; i < howMany && fault == NONE; i++) {
                readMethod();
            }
            expect(2, 0);
            if (fault == NONE && at < file.used) {
                fault = at;
            }
            return fault;
        }

        private void readHead() {
            expect(1, 202);
            expect(1, 254);
            expect(1, 186);
            expect(1, 190);
            expect(2, 0);
            expect(2, 52);
        }

        private void readPool() {
            int above = number(2);
            refuseUnless(above != 0);
            for (int i = 1; i < above && fault == NONE; i++) {
                readEntry();
            }
        }

        private void readEntry() {
            int tag = number(1);
            if (fault != NONE) {
                return;
            }
            addEntry(numberPlace);
            if (tag == Pool.TEXT) {
                readText(number(2));
            } else if (tag == Pool.CLASS) {
                number(2);
            } else if (tag >= Pool.FIELD && tag <= Pool.NAME_AND_TYPE) {
                number(2);
                number(2);
            } else {
                refuseUnless(false);
            }
        }

        private void addEntry(int place) {
            entries++;
            if (entries >= places.length) {
                places = Arrays.copyOf(places, 2 * entries);
            }
            places[entries] = place;
        }

        private void readText(int length) {
            int start = at;
            skip(length);
            for (int i = start; i < at && fault == NONE; i++) {
                int letter = file.get(i);
                if (letter < 1 || letter > 127) {
                    fault = i;
                }
            }
        }

        private void checkPool() {
            for (int i = 1; i <= entries && fault == NONE; i++) {
                int place = places[i];
                int tag = file.get(place);
                if (tag == Pool.CLASS) {
                    checkReference(place + 1, Pool.TEXT);
                } else if (tag == Pool.NAME_AND_TYPE) {
                    checkReference(place + 1, Pool.TEXT);
                    checkReference(place + 3, Pool.TEXT);
                } else if (tag != Pool.TEXT) {
                    checkReference(place + 1, Pool.CLASS);
                    checkReference(place + 3, Pool.NAME_AND_TYPE);
                }
            }
        }

        private void checkReference(int place, int tag) {
            if (fault == NONE && !isEntry(file.getTwo(place), tag)) {
                fault = place;
            }
        }

        private void readClass() {
            expect(2, 49);
            expectEntry(Pool.CLASS);
            expectEntry(Pool.CLASS);
            expectClasses();
            expect(2, 1);
            expect(2, 2);
            expectEntry(Pool.TEXT);
            expectEntry(Pool.TEXT);
            expect(2, 0);
        }

        private void readMethod() {
            int access = number(2);
            int visible = access & ~16;
            refuseUnless(visible == 0 || visible == 1 || visible == 4);
            expectEntry(Pool.TEXT);
            expectEntry(Pool.TEXT);
            int attributes = number(2);
            refuseUnless(attributes == 1 || attributes == 2);
            readCode();
            if (attributes == 2) {
                readExceptions();
            }
        }

        private void readCode() {
            expectText("Code");
            int said = number(4);
            int saidPlace = numberPlace;
            int start = at;
            number(2);
            number(2);
            int length = number(4);
            refuseUnless(length != 0);
            skip(length);
            int handlers = number(2);
            for (int i = 0; i < handlers && fault == NONE; i++) {
                readHandler(length);
            }
            int tables = number(2);
            refuseUnless(tables == 0 || tables == 1);
            if (tables == 1) {
                expectText("StackMapTable");
                skip(number(4));
            }
            checkLength(saidPlace, said, at - start);
        }

        private void readHandler(int length) {
            int from = number(2);
            int to = number(2);
            refuseUnless(to > from && to < length);
            refuseUnless(number(2) < length);
            expectEntry(Pool.CLASS);
        }

        private void readExceptions() {
            expectText("Exceptions");
            int said = number(4);
            int saidPlace = numberPlace;
            int start = at;
            expectClasses();
            checkLength(saidPlace, said, at - start);
        }

        private void checkLength(int saidPlace, int said, int length) {
            if (fault == NONE && said != length) {
                fault = saidPlace;
            }
        }

        /** A number of 1, 2 or 4 bytes; 0 behind a fault. One of 4 above what an int holds is below 0. */
        private int number(int width) {
            if (fault != NONE) {
                return 0;
            }
            numberPlace = at;
            if (width > file.used - at) {
                fault = file.used;
                return 0;
            }
            int n = 0;
            for (int i = 0; i < width; i++) {
                n = (n << 8) | file.get(at + i);
            }
            at += width;
            return n;
        }

        private void skip(int length) {
            if (fault != NONE) {
                return;
            }
            if (length < 0 || length > file.used - at) {
                fault = file.used;
            } else {
                at += length;
            }
        }

        private void refuseUnless(boolean right) {
            if (fault == NONE && !right) {
                fault = numberPlace;
            }
        }

        private void expect(int width, int wanted) {
            refuseUnless(number(width) == wanted);
        }

        private void expectEntry(int tag) {
            refuseUnless(isEntry(number(2), tag));
        }

        private void expectClasses() {
            int howMany = number(2);
            for (int i = 0; i < howMany && fault == NONE; i++) {
                expectEntry(Pool.CLASS);
            }
        }

        private void expectText(String text) {
            int entry = number(2);
            refuseUnless(isEntry(entry, Pool.TEXT) && isSpelled(places[entry], text));
        }

        private boolean isSpelled(int place, String text) {
            return file.spells(place + Pool.TEXT_HEAD, file.getTwo(place + 1), text);
        }

        private boolean isEntry(int entry, int tag) {
            return entry >= 1 && entry <= entries && file.get(places[entry]) == tag;
        }
    }
}
