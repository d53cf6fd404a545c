import java.util.ArrayList;
import java.util.List;
import java.util.function.LongPredicate;

/** Reads a file once more; the first fault ends it by an exception that tells the place. */
final class ModelReader {
    private static final class Fault extends RuntimeException {
        private static final long serialVersionUID = 1;
        final int place;

        Fault(int place) {
            this.place = place;
        }
    }

    private record Entry(int tag, String letters, List<int[]> numbers) { }

    private final byte[] file;
    private final List<Entry> pool = new ArrayList<>();
    private int at;

    ModelReader(byte[] file) {
        this.file = file;
    }

    int read() {
        try {
            all();
            return -1;
        } catch (Fault e) {
            return e.place;
        }
    }

    private long number(int bytes, LongPredicate right) {
        int place = at;
        need(bytes);
        long n = 0;
        for (int i = 0; i < bytes; i++) {
            n = n * 256 + (file[at++] & 255);
        }
        if (!right.test(n)) {
            throw new Fault(place);
        }
        return n;
    }

    private long any(int bytes) {
        return number(bytes, n -> true);
    }

    private void exactly(int bytes, long due) {
        number(bytes, n -> n == due);
    }

    private void need(long bytes) {
        if (at + bytes > file.length) {
            throw new Fault(file.length);
        }
    }

    private void pass(long bytes) {
        need(bytes);
        at += (int) bytes;
    }

    private boolean isTag(long n, int tag) {
        return n > 0 && n <= pool.size() && pool.get((int) n - 1).tag == tag;
    }

    private void reference(int tag) {
        number(2, n -> isTag(n, tag));
    }

    private void named(String letters) {
        number(2, n -> isTag(n, 1) && pool.get((int) n - 1).letters.equals(letters));
    }

    private void all() {
        for (int b : new int[] {202, 254, 186, 190}) {
            exactly(1, b);
        }
        exactly(2, 0);
        exactly(2, 52);
        long count = number(2, n -> n != 0);
        for (int i = 1; i < count; i++) {
            entry();
        }
        for (Entry e : pool) {
            int[] due = e.tag == 7 ? new int[] {1} : e.tag == 12 ? new int[] {1, 1} : new int[] {7, 12};
            for (int i = 0; i < e.numbers.size(); i++) {
                if (!isTag(e.numbers.get(i)[1], due[i])) {
                    throw new Fault(e.numbers.get(i)[0]);
                }
            }
        }
        exactly(2, 49);
        reference(7);
        reference(7);
        classes();
        exactly(2, 1);
        exactly(2, 2);
        reference(1);
        reference(1);
        exactly(2, 0);
        long methods = any(2);
        for (int i = 0; i < methods; i++) {
            method();
        }
        exactly(2, 0);
        if (at != file.length) {
            throw new Fault(at);
        }
    }

    private void entry() {
        int tag = (int) number(1, n -> n == 1 || n == 7 || n == 9 || n == 10 || n == 11 || n == 12);
        StringBuilder letters = new StringBuilder();
        List<int[]> numbers = new ArrayList<>();
        if (tag == 1) {
            long length = any(2);
            need(length);
            for (int i = 0; i < length; i++) {
                letters.append((char) number(1, n -> n >= 1 && n <= 127));
            }
        }
        for (int i = tag == 1 ? 2 : tag == 7 ? 1 : 0; i < 2; i++) {
            numbers.add(new int[] {at, (int) any(2)});
        }
        pool.add(new Entry(tag, letters.toString(), numbers));
    }

    private void classes() {
        long count = any(2);
        for (int i = 0; i < count; i++) {
            reference(7);
        }
    }

    private void method() {
        number(2, n -> n == 0 || n == 1 || n == 4 || n == 16 || n == 17 || n == 20);
        reference(1);
        reference(1);
        long attributes = number(2, n -> n == 1 || n == 2);
        named("Code");
        attribute(this::code);
        if (attributes == 2) {
            named("Exceptions");
            attribute(this::classes);
        }
    }

    private void attribute(Runnable content) {
        int place = at;
        long said = any(4);
        int start = at;
        content.run();
        if (said != at - start) {
            throw new Fault(place);
        }
    }

    private void code() {
        any(2);
        any(2);
        long length = number(4, n -> n != 0);
        pass(length);
        long handlers = any(2);
        for (int i = 0; i < handlers; i++) {
            long from = any(2);
            number(2, n -> n > from && n < length);
            number(2, n -> n < length);
            reference(7);
        }
        if (number(2, n -> n < 2) == 1) {
            named("StackMapTable");
            pass(any(4));
        }
    }
}
