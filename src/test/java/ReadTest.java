/** Promises 16 and 18 to 20: bytes are changed and cut, and read up to the first fault. */
public final class ReadTest {
    private static final Check CHECK = new Check();
    private static final int NONE = ProxyForge.NONE;
    // Places in the file of a proxy of OBJECT, which FileTest writes out.
    private static final int BODY = 124;

    public static void main(String[] args) {
        changes();
        cuts();
        head();
        pool();
        references();
        classPart();
        methodPart();
        handlers();
        exceptions();
        lengths();
        everyCut();
        CHECK.end();
    }

    private static ProxyForge ofObject() {
        ProxyForge x = new ProxyForge();
        x.forge(0, NONE, NONE, NONE);
        return x;
    }

    /** One INTERCEPTED slot without parameters that throws two types. */
    private static ProxyForge withSlot() {
        ProxyForge x = new ProxyForge();
        x.type(false, 1, 0, 0);
        x.method(4, 10, 1, 0, 0);
        x.method(4, 1, 1, 0, 0);
        x.throwing(5, 3);
        x.throwing(5, 2);
        x.forge(4, NONE, NONE, NONE);
        return x;
    }

    /** What is read when one byte is another one; the byte is put back. */
    private static void fault(ProxyForge x, String what, int place, int b, int due) {
        int before = x.byteAt(place);
        CHECK.yes("change(" + place + ")", x.change(place, b));
        CHECK.same(what + ": byte " + place + " is " + b, due, x.read());
        x.change(place, before);
        CHECK.same("put back", NONE, x.read());
    }

    private static void changes() {
        ProxyForge x = ofObject();
        CHECK.yes("change", x.change(5, 0x1FF));
        CHECK.same("the lowest eight bits", 255, x.byteAt(5));
        CHECK.yes("change", x.change(181, -128));
        CHECK.same("the last", 128, x.byteAt(181));
        CHECK.no("behind the last", x.change(182, 0));
        CHECK.no("before the first", x.change(-1, 0));
        CHECK.no("far off", x.change(Integer.MAX_VALUE, 0));
        CHECK.same("size", 182, x.size());
    }

    private static void cuts() {
        ProxyForge x = ofObject();
        CHECK.no("more than there are", x.cut(183));
        CHECK.no("below 0", x.cut(-1));
        CHECK.yes("all", x.cut(182));
        CHECK.same("right", NONE, x.read());
        CHECK.yes("one less", x.cut(181));
        CHECK.same("size", 181, x.size());
        CHECK.same("no such byte", NONE, x.byteAt(181));
        CHECK.no("no such byte", x.change(181, 0));
        CHECK.no("cut can't grow", x.cut(182));
        CHECK.same("read", 181, x.read());
        CHECK.yes("none left", x.cut(0));
        CHECK.same("size", 0, x.size());
        CHECK.same("of no bytes", 0, x.read());
        CHECK.same("without a proxy", 0, new ProxyForge().read());
    }

    private static void head() {
        ProxyForge x = ofObject();
        for (int k = 0; k < 4; k++) {
            fault(x, "magic", k, 1, k);
        }
        fault(x, "0 (2)", 4, 1, 4);
        fault(x, "0 (2)", 5, 1, 4);
        fault(x, "52 (2)", 6, 1, 6);
        fault(x, "52 (2)", 7, 53, 6);
        fault(x, "no entries and 1", 9, 0, 8);
    }

    private static void pool() {
        ProxyForge x = ofObject();
        int end = x.size();
        fault(x, "tag", 10, 0, 10);
        fault(x, "tag", 10, 2, 10);
        fault(x, "tag", 10, 8, 10);
        fault(x, "tag", 10, 13, 10);
        fault(x, "a TEXT's bytes", 13, 0, 13);
        fault(x, "a TEXT's bytes", 16, 128, 16);
        fault(x, "a TEXT's bytes", 14, 1, NONE);
        fault(x, "a TEXT's bytes", 14, 127, NONE);
        fault(x, "what is said goes beyond them", 11, 255, end);
        fault(x, "a longer TEXT takes the next tag and what follows", 12, 5, 18);
        fault(x, "a shorter TEXT leaves a byte as tag", 12, 3, 16);
        fault(x, "an entry too many", 9, 16, 124);
        fault(x, "an entry too few", 9, 14, 119);
    }

    private static void references() {
        ProxyForge x = ofObject();
        fault(x, "CLASS: no TEXT", 19, 2, 18);
        fault(x, "CLASS: 0", 19, 0, 18);
        fault(x, "CLASS: beyond the pool", 18, 1, 18);
        fault(x, "CLASS: the last entry", 19, 14, 18);
        fault(x, "CLASS: behind the last entry", 19, 15, 18);
        fault(x, "CLASS: another TEXT", 19, 12, NONE);
        fault(x, "12: name", 100, 2, 99);
        fault(x, "12: descriptor", 102, 4, 101);
        fault(x, "9: CLASS", 105, 1, 104);
        fault(x, "9: 12", 107, 9, 106);
        fault(x, "10: CLASS", 121, 5, 120);
        fault(x, "10: 12", 123, 14, 122);
        fault(x, "a 9 that is 11", 103, 11, NONE);
        x.change(19, 99);
        x.change(119, 3);
        CHECK.same("all entries are read before their numbers", 119, x.read());
    }

    private static void classPart() {
        ProxyForge x = ofObject();
        fault(x, "49", BODY + 1, 48, BODY);
        fault(x, "the proxy", BODY + 3, 1, BODY + 2);
        fault(x, "C", BODY + 5, 3, BODY + 4);
        fault(x, "C is another CLASS", BODY + 5, 2, NONE);
        fault(x, "an interface: 1 is no CLASS", BODY + 7, 1, BODY + 8);
        fault(x, "1 (2)", BODY + 9, 2, BODY + 8);
        fault(x, "2 (2)", BODY + 11, 1, BODY + 10);
        fault(x, "the field's name", BODY + 13, 4, BODY + 12);
        fault(x, "the field's descriptor", BODY + 15, 0, BODY + 14);
        fault(x, "0 (2)", BODY + 17, 1, BODY + 16);
        fault(x, "no methods", BODY + 19, 0, BODY + 20);
        fault(x, "a method more", BODY + 19, 2, x.size());
        fault(x, "0 (2) at last", x.size() - 1, 1, x.size() - 2);
        int m = BODY + 20;
        x.change(BODY + 19, 0);
        x.change(m + 1, 0);
        CHECK.same("more bytes", m + 2, x.read());
    }

    private static void methodPart() {
        ProxyForge x = ofObject();
        int m = BODY + 20;
        int end = x.size();
        for (int access = 0; access < 256; access++) {
            boolean right = access == 0 || access == 1 || access == 4 || access == 16 || access == 17 || access == 20;
            fault(x, "access", m + 1, access, right ? NONE : m);
        }
        fault(x, "access", m, 1, m);
        fault(x, "name", m + 3, 2, m + 2);
        fault(x, "descriptor", m + 5, 14, m + 4);
        fault(x, "no attributes", m + 7, 0, m + 6);
        fault(x, "three attributes", m + 7, 3, m + 6);
        fault(x, "a second attribute", m + 7, 2, end - 2);
        fault(x, "a TEXT, but not Code", m + 9, 8, m + 8);
        fault(x, "no TEXT", m + 9, 2, m + 8);
        fault(x, "how many bytes", m + 13, 23, m + 10);
        fault(x, "how many bytes, far beyond", m + 10, 255, m + 10);
        fault(x, "any depth", m + 15, 99, NONE);
        fault(x, "any locals", m + 16, 99, NONE);
        fault(x, "no code", m + 21, 0, m + 18);
        fault(x, "code beyond the end", m + 18, 128, end);
        fault(x, "code beyond the end", m + 20, 1, end);
        fault(x, "shorter code leaves handlers, the first from 0 to 0", m + 21, 9, m + 35);
        fault(x, "any code", m + 22, 255, NONE);
        fault(x, "0 or 1", end - 3, 2, end - 4);
        fault(x, "0 or 1", end - 4, 1, end - 4);
        fault(x, "1: 0 is no TEXT", end - 3, 1, end - 2);
        fault(x, "code", 94, 'c', m + 8);
        fault(x, "Codf", 97, 'f', m + 8);
    }

    /** Of a slot with handlers: where its Code begins. */
    private static int slotStart(ProxyForge x) {
        for (int k = x.size() - 1; k > 0; k--) {
            if (x.byteAt(k) == 42 && x.byteAt(k + 1) == 180) {
                return k;
            }
        }
        return NONE;
    }

    private static void handlers() {
        ProxyForge x = withSlot();
        int code = slotStart(x);
        int length = x.byteAt(code - 1);
        CHECK.same("length", 27, length);
        int h = code + length + 2;
        CHECK.same("handlers", 5, x.byteAt(h - 1));
        for (int i = 0; i < 5; i++) {
            int at = h + 8 * i;
            fault(x, "from", at + 1, 13, NONE);
            fault(x, "from is to", at + 1, 14, at + 2);
            fault(x, "from is above to", at, 1, at + 2);
            fault(x, "to", at + 3, 26, NONE);
            fault(x, "to is behind the code", at + 3, 27, at + 2);
            fault(x, "to is from", at + 3, 0, at + 2);
            fault(x, "at", at + 5, 26, NONE);
            fault(x, "at is behind the code", at + 5, 27, at + 4);
            fault(x, "at", at + 4, 1, at + 4);
            fault(x, "CLASS", at + 7, 1, at + 6);
            fault(x, "CLASS", at + 7, 0, at + 6);
        }
        int table = h + 40;
        fault(x, "0 or 1", table + 1, 2, table);
        fault(x, "none: Code is shorter than it said", table + 1, 0, code - 12);
        fault(x, "StackMapTable", table + 3, 1, table + 2);
        fault(x, "beyond the end", table + 4, 1, x.size());
        fault(x, "beyond the end", table + 4, 255, x.size());
        fault(x, "one byte more: Code is longer than it said", table + 7, 11, code - 12);
        fault(x, "any frames", table + 10, 0, NONE);
    }

    private static void exceptions() {
        ProxyForge x = withSlot();
        int end = x.size();
        int e = end - 2 - 12;
        fault(x, "Exceptions", e + 1, 1, e);
        fault(x, "how many bytes", e + 5, 7, e + 2);
        fault(x, "how many", e + 7, 1, e + 2);
        fault(x, "one more: 0 is no CLASS", e + 7, 3, end - 2);
        fault(x, "CLASS", e + 9, 1, e + 8);
        fault(x, "CLASS", e + 11, 0, e + 10);
        fault(x, "one attribute", slotStart(x) - 15, 1, e);
    }

    private static void lengths() {
        ProxyForge x = withSlot();
        int code = slotStart(x);
        x.change(code - 9, 1);
        x.change(x.size() - 1, 1);
        CHECK.same("how many bytes is asked when the attribute has been read", code - 12, x.read());
        x.change(code + 27 + 2 + 7, 0);
        CHECK.same("what is inside comes before it", code + 27 + 2 + 6, x.read());
    }

    private static void everyCut() {
        ProxyForge x = withSlot();
        for (int n = x.size() - 1; n >= 0; n--) {
            CHECK.yes("cut", x.cut(n));
            CHECK.same("a number or what is said goes beyond " + n, n, x.read());
        }
    }
}
