import java.util.List;
import java.util.Set;
import java.util.function.Supplier;

/** Promises 18 to 20: bytes are changed and cut, and read up to the first fault. */
public final class ReadTest {
    private static final Check CHECK = new Check();
    private static final int NONE = ProxyForge.NONE;
    private static final int FULL_BYTE = 256;

    // Places in the file of a proxy of OBJECT, which FileTest writes out.
    private static final int SIZE = 182;
    private static final int BODY = 124;
    private static final int METHOD = 144;
    private static final Set<Integer> TEXTS = Set.of(1, 3, 5, 6, 7, 8, 9, 12);
    private static final Set<Integer> CLASSES = Set.of(2, 4);
    private static final Set<Integer> NAMES_AND_TYPES = Set.of(10, 13);

    // Places in that of a slot with handlers and exceptions, told from its end (see withSlot).
    private static final int SLOT_BYTES = 121;
    private static final int CODE_LENGTH = 27;
    private static final List<Supplier<Renewed>> FILES = List.of(ReadTest::ofObject, ReadTest::withSlot);

    public static void main(String[] args) {
        changedBytes();
        noSuchByte();
        callsKnowNothing();
        keepsTheFirst();
        hasNotSoMany();
        ofNoBytes();
        firstWords();
        howManyEntries();
        tags();
        bytesOfTexts();
        textsBeyond();
        numbersOfEntries();
        numbersAfterAllEntries();
        classAndParent();
        interfaces();
        field();
        howManyMethods();
        accesses();
        namesAndAttributes();
        codeName();
        codeLength();
        handlers();
        howManyHandlers();
        tables();
        otherTexts();
        exceptions();
        lengthsWhenRead();
        lastAndNoMore();
        wrongFirst();
        goesBeyond();
        everyByte();
        CHECK.end();
    }

    private static Renewed ofObject() {
        Renewed x = new Renewed();
        CHECK.same("forge", 0, Make.forge(x, 0));
        return x;
    }

    /** A class with two interfaces, one INTERCEPTED slot without parameters that throws two types: 183 bytes behind the pool. */
    private static Renewed withSlot() {
        Renewed x = new Renewed();
        Make.base(x, 1, 0, 0);
        x.type(true, 1, 0, 0);
        x.type(true, 1, 0, 0);
        x.method(4, 1, 1, 0, 0);
        x.throwing(5, 3);
        x.throwing(5, 2);
        CHECK.same("forge", 0, Make.forge(x, 4, 5, 6));
        return x;
    }

    private static int size(Supplier<Renewed> made) {
        return made.get().size();
    }

    /** What is read when bytes (place, byte, place, byte ...) of a new file are others. */
    private static void fault(String what, int due, Supplier<Renewed> made, int... changes) {
        Renewed x = made.get();
        StringBuilder told = new StringBuilder(what);
        for (int i = 0; i < changes.length; i += 2) {
            CHECK.yes("change(" + changes[i] + ")", x.change(changes[i], changes[i + 1]));
            told.append(" | byte ").append(changes[i]).append(" is ").append(changes[i + 1]);
        }
        CHECK.same(told.toString(), due, x.read());
    }

    /** A number of two bytes must be as it is: any other one is wrong at its first byte. */
    private static void exactly(String what, Supplier<Renewed> made, int place) {
        Renewed right = made.get();
        for (int k = place; k < place + 2; k++) {
            int b = right.byteAt(k);
            for (int other : new int[] {b + 1, b - 1, b ^ 128, 255 - b}) {
                fault(what, place, made, k, other);
            }
        }
    }

    /** A number of two bytes of an entry: right are some alone. */
    private static void entry(String what, int place, Set<Integer> right) {
        for (int n = 0; n < 40; n++) {
            fault(what, right.contains(n) ? NONE : place, ReadTest::ofObject, place + 1, n);
            fault(what, place, ReadTest::ofObject, place, 1, place + 1, n);
        }
        fault(what, place, ReadTest::ofObject, place, 255, place + 1, 255);
        fault(what, place, ReadTest::ofObject, place, 128);
    }

    private static void changedBytes() {
        CHECK.of("Promise 18: A byte of the file becomes the lowest eight bits of b");
        int[] values = {0, 1, 127, 128, 255, 256, 257, 0x1FF, -1, -128, -129, -256, Integer.MIN_VALUE, Integer.MAX_VALUE};
        int[] due = {0, 1, 127, 128, 255, 0, 1, 255, 255, 128, 127, 0, 0, 255};
        for (int k : new int[] {0, 5, SIZE - 1}) {
            Renewed x = ofObject();
            int before = k > 0 ? x.byteAt(k - 1) : NONE;
            int behind = x.byteAt(k + 1);
            for (int i = 0; i < values.length; i++) {
                CHECK.yes("change(" + k + ", " + values[i] + ")", x.change(k, values[i]));
                CHECK.same("byteAt(" + k + ")", due[i], x.byteAt(k));
            }
            CHECK.same("the one before", before, x.byteAt(k - 1));
            CHECK.same("the one behind", behind, x.byteAt(k + 1));
            CHECK.same("size", SIZE, x.size());
        }
    }

    private static void noSuchByte() {
        CHECK.of("Promise 18: false if there is none");
        Renewed x = ofObject();
        for (int far : new int[] {Integer.MIN_VALUE, -1, SIZE, SIZE + 1, 512, 10_000, Integer.MAX_VALUE}) {
            CHECK.no("change(" + far + ")", x.change(far, 1));
        }
        CHECK.same("size", SIZE, x.size());
        CHECK.same("still right", NONE, x.read());
        x.cut(10);
        CHECK.no("cut off", x.change(10, 1));
        CHECK.yes("the last", x.change(9, 1));
        CHECK.no("without a proxy", new ProxyForge().change(0, 1));
    }

    private static void callsKnowNothing() {
        CHECK.of("Promise 18: (calls know nothing of it)");
        Renewed x = withSlot();
        x.answer(5, 3);
        for (int k = 0; k < 300; k++) {
            x.change(k, 255);
        }
        CHECK.same("call", 1, x.call(0, 0, 0, 0, 0));
        CHECK.same("result", 3, x.result());
        CHECK.same("slots", 1, x.slots());
        CHECK.same("slot", 5, x.slot(0));
        x.cut(0);
        CHECK.same("call", 1, x.call(0, 0, 0, 0, 0));
        CHECK.same("slots", 1, x.slots());
    }

    private static void keepsTheFirst() {
        CHECK.of("Promise 19: The file keeps its first n bytes");
        Renewed x = ofObject();
        byte[] whole = Make.bytes(x);
        for (int n : new int[] {SIZE, SIZE - 1, 100, 100, 1, 0, 0}) {
            CHECK.yes("cut(" + n + ")", x.cut(n));
            CHECK.same("size", n, x.size());
            CHECK.same("none behind", NONE, x.byteAt(n));
            if (n > 0) {
                CHECK.same("the last", whole[n - 1] & 255, x.byteAt(n - 1));
                CHECK.same("the first", 202, x.byteAt(0));
            }
        }
        CHECK.same("a new proxy", 0, Make.forge(x, 0));
        CHECK.same("has all bytes again", SIZE, x.size());
        CHECK.same("read", NONE, x.read());
    }

    private static void hasNotSoMany() {
        CHECK.of("Promise 19: false if it has not so many");
        Renewed x = ofObject();
        for (int far : new int[] {Integer.MIN_VALUE, -1, SIZE + 1, SIZE + 2, 512, Integer.MAX_VALUE}) {
            CHECK.no("cut(" + far + ")", x.cut(far));
            CHECK.same("size", SIZE, x.size());
        }
        CHECK.same("still right", NONE, x.read());
        x.cut(50);
        CHECK.no("it does not grow", x.cut(51));
        CHECK.no("it does not grow", x.cut(SIZE));
        CHECK.same("size", 50, x.size());
    }

    private static void ofNoBytes() {
        CHECK.of("Promise 20: NONE, if it is right (of no bytes: 0)");
        CHECK.same("right", NONE, ofObject().read());
        CHECK.same("right", NONE, withSlot().read());
        CHECK.same("without a proxy", 0, new ProxyForge().read());
        Renewed x = ofObject();
        x.cut(0);
        CHECK.same("cut to none", 0, x.read());
    }

    private static void firstWords() {
        CHECK.of("READING: 202, 254, 186, 190; 0 (2); 52 (2)");
        int[] due = {202, 254, 186, 190};
        for (int k = 0; k < 4; k++) {
            for (int b = 0; b < FULL_BYTE; b++) {
                fault("byte " + k, b == due[k] ? NONE : k, ReadTest::ofObject, k, b);
            }
        }
        exactly("0 (2)", ReadTest::ofObject, 4);
        exactly("52 (2)", ReadTest::ofObject, 6);
    }

    private static void howManyEntries() {
        CHECK.of("READING: how many entries and 1 (2), not 0");
        fault("0", 8, ReadTest::ofObject, 9, 0);
        fault("1: no entries, then no 49", 10, ReadTest::ofObject, 9, 1);
        fault("an entry too few: its tag is no 49", 119, ReadTest::ofObject, 9, 14);
        fault("an entry too many: 0 is no tag", BODY, ReadTest::ofObject, 9, 16);
        fault("256 too many", BODY, ReadTest::ofObject, 8, 1);
        fault("65535", BODY, ReadTest::ofObject, 8, 255, 9, 255);
    }

    private static void tags() {
        CHECK.of("READING: entries: 1, 7, 9, 10, 11 or 12, and what belongs to it");
        for (int tag = 0; tag < FULL_BYTE; tag++) {
            int due = tag == 1 ? NONE : tag == 7 ? 13 : tag >= 9 && tag <= 12 ? 15 : 10;
            fault("the first tag, a TEXT's", due, ReadTest::ofObject, 10, tag);
            due = tag >= 9 && tag <= 11 ? NONE : tag == 7 || tag == 12 ? 120 : 119;
            if (tag != 1) {
                fault("the last tag, a METHOD's", due, ReadTest::ofObject, 119, tag);
            }
        }
        fault("a METHOD as a TEXT of 4 bytes, the first one 0", 122, ReadTest::ofObject, 119, 1);
    }

    private static void bytesOfTexts() {
        CHECK.of("READING: bytes of a TEXT being 1 .. 127");
        for (int b = 0; b < FULL_BYTE; b++) {
            boolean right = b >= 1 && b <= 127;
            fault("the first", right ? NONE : 13, ReadTest::ofObject, 13, b);
            fault("the last", right ? NONE : 16, ReadTest::ofObject, 16, b);
            fault("of the last TEXT", right ? NONE : 113, ReadTest::ofObject, 113, b);
        }
        fault("the first wrong one", 14, ReadTest::ofObject, 14, 0, 15, 0);
        fault("an empty TEXT, the next tag is p", 13, ReadTest::ofObject, 12, 0);
        fault("one byte less", 16, ReadTest::ofObject, 12, 3);
        fault("one byte more, then 0 as a tag", 18, ReadTest::ofObject, 12, 5);
    }

    private static void textsBeyond() {
        CHECK.of("READING: how many there are, if what is said goes beyond them (a TEXT)");
        int rest = SIZE - 13;
        fault("up to the end, with a 0 inside", 18, ReadTest::ofObject, 12, rest);
        fault("one byte beyond", SIZE, ReadTest::ofObject, 12, rest + 1);
        fault("two bytes beyond", SIZE, ReadTest::ofObject, 12, rest + 2);
        for (int high = 1; high < FULL_BYTE; high++) {
            fault("far beyond", SIZE, ReadTest::ofObject, 11, high);
        }
        Renewed x = ofObject();
        x.cut(17);
        CHECK.same("a TEXT that ends the file is right, what follows goes beyond", 17, x.read());
        x.change(13, 0);
        CHECK.same("its byte is wrong before that", 13, x.read());
        x.change(13, 'p');
        x.cut(16);
        CHECK.same("the TEXT goes beyond", 16, x.read());
    }

    private static void numbersOfEntries() {
        CHECK.of("READING: their numbers: of CLASS: a TEXT; of 9, 10, 11: a CLASS, a 12; of 12: two TEXTS");
        entry("CLASS: a TEXT", 18, TEXTS);
        entry("CLASS: a TEXT", 40, TEXTS);
        entry("12: the first TEXT", 99, TEXTS);
        entry("12: the second TEXT", 101, TEXTS);
        entry("12: the first TEXT", 115, TEXTS);
        entry("12: the second TEXT", 117, TEXTS);
        entry("9: a CLASS", 104, CLASSES);
        entry("9: a 12", 106, NAMES_AND_TYPES);
        entry("10: a CLASS", 120, CLASSES);
        entry("10: a 12", 122, NAMES_AND_TYPES);
        for (int n = 0; n < 20; n++) {
            fault("11: a CLASS", CLASSES.contains(n) ? NONE : 120, ReadTest::ofObject, 119, 11, 121, n);
            fault("11: a 12", NAMES_AND_TYPES.contains(n) ? NONE : 122, ReadTest::ofObject, 119, 11, 123, n);
        }
    }

    private static void numbersAfterAllEntries() {
        CHECK.of("READING: When all entries were read, from the first on, their numbers");
        fault("the last tag before the first number", 119, ReadTest::ofObject, 19, 99, 119, 3);
        fault("the last number that goes beyond", SIZE, ReadTest::ofObject, 19, 99, 109, 1);
        fault("the first entry's number before others'", 18, ReadTest::ofObject, 19, 99, 41, 99, 123, 99);
        fault("an entry's first number before its second", 99, ReadTest::ofObject, 100, 99, 102, 99);
        fault("a second number before the next entry's", 101, ReadTest::ofObject, 102, 99, 105, 99);
        fault("the last entry's number before what follows", 122, ReadTest::ofObject, 123, 99, BODY, 1);
        fault("a number of a later entry is right", NONE, ReadTest::ofObject, 19, 12);
        fault("the first entry as a CLASS of itself, a TEXT put in behind it", 11, ReadTest::ofObject,
                9, 16, 10, 7, 12, 1, 13, 1, 14, 0, 15, 1);
    }

    private static void classAndParent() {
        CHECK.of("READING: Then 49 (2); two CLASSES");
        exactly("49", ReadTest::ofObject, BODY);
        entry("the proxy", BODY + 2, CLASSES);
        entry("C", BODY + 4, CLASSES);
        fault("49 before the CLASSES", BODY, ReadTest::ofObject, BODY, 1, BODY + 3, 99);
        fault("the first CLASS before the second", BODY + 2, ReadTest::ofObject, BODY + 3, 99, BODY + 5, 99);
    }

    private static void interfaces() {
        CHECK.of("READING: so many interfaces (2), CLASSES");
        int size = size(ReadTest::withSlot);
        int body = size - 183;
        fault("the first is no CLASS", body + 8, ReadTest::withSlot, body + 9, 1);
        fault("the first is 0", body + 8, ReadTest::withSlot, body + 9, 0);
        fault("the first is beyond the pool", body + 8, ReadTest::withSlot, body + 8, 1);
        fault("the second is no CLASS", body + 10, ReadTest::withSlot, body + 11, 1);
        fault("another CLASS", NONE, ReadTest::withSlot, body + 11, 2);
        fault("the first before the second", body + 8, ReadTest::withSlot, body + 9, 1, body + 11, 1);
        fault("one less: then no 1", body + 10, ReadTest::withSlot, body + 7, 1);
        fault("none: then no 1", body + 8, ReadTest::withSlot, body + 7, 0);
        fault("one more: 1 is no CLASS", body + 12, ReadTest::withSlot, body + 7, 3);
        fault("256 more: 1 is no CLASS", body + 12, ReadTest::withSlot, body + 6, 1);
        fault("one where there was none", BODY + 8, ReadTest::ofObject, BODY + 7, 1);
    }

    private static void field() {
        CHECK.of("READING: 1 (2); 2 (2); two TEXTS; 0 (2)");
        exactly("1", ReadTest::ofObject, BODY + 8);
        exactly("2", ReadTest::ofObject, BODY + 10);
        entry("the first TEXT", BODY + 12, TEXTS);
        entry("the second TEXT", BODY + 14, TEXTS);
        exactly("0", ReadTest::ofObject, BODY + 16);
        fault("1 before 2", BODY + 8, ReadTest::ofObject, BODY + 9, 2, BODY + 11, 1);
        fault("2 before the TEXTS", BODY + 10, ReadTest::ofObject, BODY + 11, 1, BODY + 13, 0);
        fault("the first TEXT before the second", BODY + 12, ReadTest::ofObject, BODY + 13, 0, BODY + 15, 0);
        fault("the second TEXT before 0", BODY + 14, ReadTest::ofObject, BODY + 15, 0, BODY + 17, 1);
    }

    private static void howManyMethods() {
        CHECK.of("READING: how many methods (2). Of each: ...");
        fault("none: then no 0", METHOD, ReadTest::ofObject, METHOD - 1, 0);
        fault("one more: it goes beyond", SIZE, ReadTest::ofObject, METHOD - 1, 2);
        fault("65281", SIZE, ReadTest::ofObject, METHOD - 2, 255);
        int slot = size(ReadTest::withSlot) - 2 - SLOT_BYTES;
        int count = slot - 36 - 2;
        fault("one less: then no 0", slot, ReadTest::withSlot, count + 1, 1);
        fault("each is read", slot, ReadTest::withSlot, slot + 1, 2);
        fault("the first before the second", count + 2, ReadTest::withSlot, count + 3, 2, slot + 1, 2);
    }

    private static void accesses() {
        CHECK.of("READING: access (2) 0, 1, 4, 16, 17 or 20");
        Set<Integer> right = Set.of(0, 1, 4, 16, 17, 20);
        for (int access = 0; access < FULL_BYTE; access++) {
            fault("access", right.contains(access) ? NONE : METHOD, ReadTest::ofObject, METHOD + 1, access);
            fault("access", METHOD, ReadTest::ofObject, METHOD, 1, METHOD + 1, access);
        }
        fault("access", METHOD, ReadTest::ofObject, METHOD, 128);
    }

    private static void namesAndAttributes() {
        CHECK.of("READING: two TEXTS; 1 or 2 attributes (2)");
        entry("name", METHOD + 2, TEXTS);
        entry("descriptor", METHOD + 4, TEXTS);
        fault("access before the name", METHOD, ReadTest::ofObject, METHOD + 1, 2, METHOD + 3, 0);
        fault("the name before the descriptor", METHOD + 2, ReadTest::ofObject, METHOD + 3, 0, METHOD + 5, 0);
        fault("the descriptor before the attributes", METHOD + 4, ReadTest::ofObject, METHOD + 5, 0, METHOD + 7, 0);
        for (int n = 0; n < FULL_BYTE; n++) {
            int due = n == 1 ? NONE : n == 2 ? SIZE - 2 : METHOD + 6;
            fault("attributes", due, ReadTest::ofObject, METHOD + 7, n);
            fault("attributes", METHOD + 6, ReadTest::ofObject, METHOD + 6, 1, METHOD + 7, n);
        }
        fault("3 before what they would be", METHOD + 6, ReadTest::ofObject, METHOD + 7, 3, METHOD + 9, 0);
    }

    private static void codeName() {
        CHECK.of("READING: The first: a TEXT that is Code");
        entry("Code", METHOD + 8, Set.of(9));
        fault("code", METHOD + 8, ReadTest::ofObject, 94, 'c');
        fault("Codf", METHOD + 8, ReadTest::ofObject, 97, 'f');
        fault("Cod, with e as the next tag", 97, ReadTest::ofObject, 93, 3);
        fault("a class named Code is no TEXT", METHOD + 8, ReadTest::ofObject, 19, 9, METHOD + 9, 2);
        fault("cb is shorter", METHOD + 8, ReadTest::ofObject, METHOD + 9, 5);
        fault("Co is shorter", METHOD + 8, ReadTest::ofObject, 45, 'C', 46, 'o', METHOD + 9, 5);
        fault("Codeit is longer", METHOD + 8, ReadTest::ofObject, 66, 'C', 67, 'o', 68, 'd', 69, 'e', METHOD + 9, 7);
        fault("px/P as Code", NONE, ReadTest::ofObject, 13, 'C', 14, 'o', 15, 'd', 16, 'e', METHOD + 9, 1);
        fault("any depth and locals", NONE, ReadTest::ofObject, METHOD + 14, 255, METHOD + 15, 0, METHOD + 16, 255);
    }

    private static void codeLength() {
        CHECK.of("READING: how many bytes of code (4), not 0; these");
        int length = METHOD + 18;
        fault("0", length, ReadTest::ofObject, length + 3, 0);
        int rest = SIZE - (length + 4);
        fault("up to the end: then how many handlers goes beyond", SIZE, ReadTest::ofObject, length + 3, rest);
        fault("one byte beyond", SIZE, ReadTest::ofObject, length + 3, rest + 1);
        fault("two bytes less than all: then handlers, 0 or 1 goes beyond", SIZE, ReadTest::ofObject, length + 3, rest - 2);
        fault("four bytes less: then the length is asked", METHOD + 10, ReadTest::ofObject, length + 3, rest - 4);
        for (int k = 0; k < 3; k++) {
            for (int b : new int[] {1, 127, 128, 255}) {
                fault("far beyond", SIZE, ReadTest::ofObject, length + k, b);
                fault("far beyond, the lowest byte 0", SIZE, ReadTest::ofObject, length + k, b, length + 3, 0);
            }
        }
        fault("all bits", SIZE, ReadTest::ofObject, length, 255, length + 1, 255, length + 2, 255, length + 3, 255);
        fault("one less: 177 * 256 handlers, the first from 0 to 0", length + 17, ReadTest::ofObject, length + 3, 9);
        for (int k = length + 4; k < length + 14; k++) {
            fault("any code", NONE, ReadTest::ofObject, k, 0);
            fault("any code", NONE, ReadTest::ofObject, k, 255);
        }
    }

    private static void handlers() {
        CHECK.of("READING: from (2); to (2) above from, and below the bytes of code; at (2) below these; a CLASS");
        int slot = size(ReadTest::withSlot) - 2 - SLOT_BYTES;
        for (int i = 0; i < 5; i++) {
            int at = slot + 51 + 8 * i;
            fault("from 13 to 14", NONE, ReadTest::withSlot, at + 1, 13);
            fault("from 14 to 14", at + 2, ReadTest::withSlot, at + 1, 14);
            fault("from 15 to 14", at + 2, ReadTest::withSlot, at + 1, 15);
            fault("from 256 to 14", at + 2, ReadTest::withSlot, at, 1);
            fault("from 65535 to 14", at + 2, ReadTest::withSlot, at, 255, at + 1, 255);
            fault("from 0 to 0", at + 2, ReadTest::withSlot, at + 3, 0);
            fault("from 0 to 1", NONE, ReadTest::withSlot, at + 3, 1);
            fault("to the last byte", NONE, ReadTest::withSlot, at + 3, CODE_LENGTH - 1);
            fault("to the end", at + 2, ReadTest::withSlot, at + 3, CODE_LENGTH);
            fault("to far beyond", at + 2, ReadTest::withSlot, at + 2, 1);
            fault("to 65535", at + 2, ReadTest::withSlot, at + 2, 255, at + 3, 255);
            fault("at 0", NONE, ReadTest::withSlot, at + 5, 0);
            fault("at the last byte", NONE, ReadTest::withSlot, at + 5, CODE_LENGTH - 1);
            fault("at the end", at + 4, ReadTest::withSlot, at + 5, CODE_LENGTH);
            fault("at far beyond", at + 4, ReadTest::withSlot, at + 4, 1);
            fault("a TEXT is no CLASS", at + 6, ReadTest::withSlot, at + 7, 1);
            fault("0 is no CLASS", at + 6, ReadTest::withSlot, at + 7, 0);
            fault("another CLASS", NONE, ReadTest::withSlot, at + 7, 2);
            fault("a CLASS beyond the pool", at + 6, ReadTest::withSlot, at + 6, 1);
            fault("to before at", at + 2, ReadTest::withSlot, at + 3, 0, at + 5, 99);
            fault("at before the CLASS", at + 4, ReadTest::withSlot, at + 5, 99, at + 7, 0);
        }
        fault("the first handler before the second", slot + 53, ReadTest::withSlot, slot + 54, 0, slot + 62, 0);
    }

    private static void howManyHandlers() {
        CHECK.of("READING: how many handlers (2), these");
        int slot = size(ReadTest::withSlot) - 2 - SLOT_BYTES;
        int count = slot + 49;
        fault("one less: then from as 0 or 1, and the length is asked", slot + 10, ReadTest::withSlot, count + 1, 4);
        fault("none: then the first from as 0 or 1, and the length is asked", slot + 10, ReadTest::withSlot, count + 1, 0);
        fault("one more: from 1 to what is above the code", slot + 93, ReadTest::withSlot, count + 1, 6);
        fault("256 more", slot + 93, ReadTest::withSlot, count, 1);
        fault("one where there was none: from 0 to 0", SIZE - 2, ReadTest::ofObject, METHOD + 33, 1);
    }

    private static void tables() {
        CHECK.of("READING: 0 or 1 (2); if 1, a TEXT that is StackMapTable, how many bytes (4), these");
        int size = size(ReadTest::withSlot);
        int slot = size - 2 - SLOT_BYTES;
        int table = slot + 91;
        for (int n = 2; n < FULL_BYTE; n++) {
            fault("0 or 1", table, ReadTest::withSlot, table + 1, n);
        }
        fault("0 or 1", table, ReadTest::withSlot, table, 1);
        fault("0: the length is asked", slot + 10, ReadTest::withSlot, table + 1, 0);
        fault("1 where it was 0: the last 0 is no TEXT", SIZE - 2, ReadTest::ofObject, SIZE - 3, 1);
        fault("0 is no TEXT", table + 2, ReadTest::withSlot, table + 3, 0);
        fault("1 is a TEXT, but not that", table + 2, ReadTest::withSlot, table + 3, 1);
        fault("2 is no TEXT", table + 2, ReadTest::withSlot, table + 3, 2);
        fault("beyond the pool", table + 2, ReadTest::withSlot, table + 2, 1);
        int rest = size - (table + 8);
        fault("one byte more: the length is asked", slot + 10, ReadTest::withSlot, table + 7, 11);
        fault("one byte less: the length is asked", slot + 10, ReadTest::withSlot, table + 7, 9);
        fault("no bytes: the length is asked", slot + 10, ReadTest::withSlot, table + 7, 0);
        fault("up to the end: the length is asked", slot + 10, ReadTest::withSlot, table + 7, rest);
        fault("one byte beyond", size, ReadTest::withSlot, table + 7, rest + 1);
        for (int k = 0; k < 3; k++) {
            for (int b : new int[] {1, 127, 128, 255}) {
                fault("far beyond", size, ReadTest::withSlot, table + 4 + k, b);
            }
        }
        for (int k = 0; k < 10; k++) {
            fault("any frames", NONE, ReadTest::withSlot, table + 8 + k, 255);
        }
    }

    /** Where a TEXT of a new file begins, and its number: other letters are put there, and a number of the file is its. */
    private static void otherText(String what, int due, int number, String text, String letters) {
        Renewed x = withSlot();
        List<String> pool = Listing.withNumbers(x).pool;
        int entry = pool.indexOf(text) + 1;
        int place = new String(Make.bytes(x), java.nio.charset.StandardCharsets.ISO_8859_1).indexOf(text);
        for (int i = 0; i < letters.length(); i++) {
            x.change(place + i, letters.charAt(i));
        }
        x.change(number + 1, entry);
        CHECK.same(what + ": " + letters + " in " + text, due, x.read());
    }

    private static void otherTexts() {
        CHECK.of("READING: a TEXT that is StackMapTable; a TEXT that is Exceptions");
        int size = size(ReadTest::withSlot);
        int table = size - 2 - SLOT_BYTES + 93;
        int exceptions = size - 2 - 12;
        otherText("shorter", table, table, "cb", "St");
        otherText("longer", table, table, "java/lang/RuntimeException", "StackMapTable");
        otherText("as long, but not that", table, table, "Lpx/Callback;", "StackMapTablf");
        otherText("another one that is it", NONE, table, "Lpx/Callback;", "StackMapTable");
        otherText("shorter", exceptions, exceptions, "cb", "Ex");
        otherText("longer", exceptions, exceptions, "java/lang/RuntimeException", "Exceptions");
        otherText("longer by one letter", exceptions, exceptions, "px/Callback", "Exceptions");
    }

    private static void exceptions() {
        CHECK.of("READING: The second: a TEXT that is Exceptions, how many bytes (4); how many (2), CLASSES");
        int size = size(ReadTest::withSlot);
        int e = size - 2 - 12;
        int slot = size - 2 - SLOT_BYTES;
        fault("1 is a TEXT, but not that", e, ReadTest::withSlot, e + 1, 1);
        fault("0 is no TEXT", e, ReadTest::withSlot, e + 1, 0);
        fault("2 is no TEXT", e, ReadTest::withSlot, e + 1, 2);
        fault("beyond the pool", e, ReadTest::withSlot, e, 1);
        fault("one less: the length is asked", e + 2, ReadTest::withSlot, e + 7, 1);
        fault("none: the length is asked", e + 2, ReadTest::withSlot, e + 7, 0);
        fault("one more: 0 is no CLASS", size - 2, ReadTest::withSlot, e + 7, 3);
        fault("256 more: 0 is no CLASS", size - 2, ReadTest::withSlot, e + 6, 1);
        fault("the first is no CLASS", e + 8, ReadTest::withSlot, e + 9, 1);
        fault("the second is no CLASS", e + 10, ReadTest::withSlot, e + 11, 0);
        fault("another CLASS", NONE, ReadTest::withSlot, e + 11, 2);
        fault("the first before the second", e + 8, ReadTest::withSlot, e + 9, 1, e + 11, 1);
        fault("one attribute: no 0 behind it", e, ReadTest::withSlot, slot + 7, 1);
    }

    private static void lengthsWhenRead() {
        CHECK.of("READING: How many bytes an attribute has is asked when it has been read");
        int size = size(ReadTest::withSlot);
        int slot = size - 2 - SLOT_BYTES;
        int e = size - 2 - 12;
        for (int k = 0; k < 4; k++) {
            for (int b : new int[] {1, 127, 128, 255}) {
                fault("Code's", slot + 10, ReadTest::withSlot, slot + 10 + k, b);
                fault("Exceptions'", e + 2, ReadTest::withSlot, e + 2 + k, b);
                fault("of a constructor's Code", METHOD + 10, ReadTest::ofObject, METHOD + 10 + k, b);
            }
        }
        fault("one less", slot + 10, ReadTest::withSlot, slot + 13, 94);
        fault("one more", slot + 10, ReadTest::withSlot, slot + 13, 96);
        fault("one less", e + 2, ReadTest::withSlot, e + 5, 5);
        fault("one more", e + 2, ReadTest::withSlot, e + 5, 7);
        fault("what is inside before Code's", slot + 18, ReadTest::withSlot, slot + 13, 0, slot + 21, 0);
        fault("the last that is inside before Code's", slot + 93, ReadTest::withSlot, slot + 13, 0, slot + 94, 0);
        fault("what goes beyond inside before Code's", size, ReadTest::withSlot, slot + 13, 0, slot + 95, 1);
        fault("Code's before what is behind", slot + 10, ReadTest::withSlot, slot + 13, 0, e + 1, 0);
        fault("what is inside before Exceptions'", e + 10, ReadTest::withSlot, e + 5, 0, e + 11, 0);
        fault("Exceptions' before what is behind", e + 2, ReadTest::withSlot, e + 5, 0, size - 1, 1);
    }

    private static void lastAndNoMore() {
        CHECK.of("READING: Last: 0 (2), no more bytes");
        exactly("0", ReadTest::ofObject, SIZE - 2);
        exactly("0", ReadTest::withSlot, size(ReadTest::withSlot) - 2);
        fault("no methods, 0: more bytes", METHOD + 2, ReadTest::ofObject, METHOD - 1, 0, METHOD + 1, 0);
        Renewed x = ofObject();
        x.change(METHOD - 1, 0);
        x.change(METHOD + 1, 0);
        x.cut(METHOD + 3);
        CHECK.same("one byte more", METHOD + 2, x.read());
        x.cut(METHOD + 2);
        CHECK.same("no more bytes", NONE, x.read());
        x.cut(METHOD + 1);
        CHECK.same("the last number goes beyond", METHOD + 1, x.read());
    }

    private static void wrongFirst() {
        CHECK.of("READING: from the first one on, tells where they are wrong first");
        Renewed x = ofObject();
        int[] places = {SIZE - 1, METHOD + 21, METHOD + 7, METHOD + 1, BODY + 17, BODY + 9, BODY + 1, 119, 10, 9, 7, 5, 3, 0};
        int[] due = {SIZE - 2, METHOD + 18, METHOD + 6, METHOD, BODY + 16, BODY + 8, BODY, 119, 10, 8, 6, 4, 3, 0};
        for (int i = 0; i < places.length; i++) {
            x.change(places[i], places[i] == 9 || places[i] == METHOD + 21 ? 0 : 99);
            CHECK.same("wrong from " + places[i] + " on", due[i], x.read());
        }
    }

    private static void goesBeyond() {
        CHECK.of("READING: how many there are, if a number or what is said goes beyond them");
        for (Supplier<Renewed> made : FILES) {
            int size = size(made);
            for (int n = 0; n < size; n++) {
                Renewed x = made.get();
                CHECK.yes("cut", x.cut(n));
                CHECK.same("of the first " + n + " bytes", n, x.read());
            }
        }
    }

    /** Each byte of two files as each other one: the second reader tells what is due. */
    private static void everyByte() {
        CHECK.of("READING: each number that is right, with each that is not");
        for (Supplier<Renewed> made : FILES) {
            byte[] file = Make.bytes(made.get());
            for (int k = 0; k < file.length; k++) {
                byte right = file[k];
                Renewed x = made.get();
                for (int b = 0; b < FULL_BYTE; b++) {
                    file[k] = (byte) b;
                    x.change(k, b);
                    CHECK.same("byte " + k + " is " + b, new ModelReader(file).read(), x.read());
                }
                file[k] = right;
            }
        }
    }
}
