import java.util.ArrayList;
import java.util.List;
import java.util.function.Function;

/**
 * A ProxyForge for long tests. What an object answers behind its 512th call is free: before that a new one is made,
 * and all calls that might have changed the one before are told to it again.
 */
final class Renewed {
    static final int MOST_CALLS = 512;

    private final List<Function<ProxyForge, Object>> changes = new ArrayList<>();
    private ProxyForge x = new ProxyForge();
    private int calls;

    /** How many calls more may change it. */
    int room() {
        return MOST_CALLS - 1 - changes.size();
    }

    private ProxyForge next() {
        if (calls == MOST_CALLS) {
            renew();
        }
        calls++;
        return x;
    }

    private void renew() {
        if (room() < 0) {
            throw new AssertionError("a test changes one object too often");
        }
        x = new ProxyForge();
        for (Function<ProxyForge, Object> change : changes) {
            try {
                change.apply(x);
            } catch (IllegalArgumentException | IllegalStateException e) {
                // It was refused the first time, too.
                continue;
            }
        }
        calls = changes.size();
    }

    private Object changed(Function<ProxyForge, Object> change) {
        ProxyForge now = next();
        changes.add(change);
        return change.apply(now);
    }

    int type(boolean isInterface, int flags, int pack, int parent) {
        return (int) changed(f -> f.type(isInterface, flags, pack, parent));
    }

    void implement(int type, int face) {
        changed(f -> {
            f.implement(type, face);
            return null;
        });
    }

    int method(int type, int name, int flags, int parameters, int returned) {
        return (int) changed(f -> f.method(type, name, flags, parameters, returned));
    }

    void throwing(int method, int type) {
        changed(f -> {
            f.throwing(method, type);
            return null;
        });
    }

    boolean policy(int name, int kind) {
        return (boolean) changed(f -> f.policy(name, kind));
    }

    int forge(int type, int first, int second, int third) {
        return (int) changed(f -> f.forge(type, first, second, third));
    }

    void answer(int kind, long value) {
        changed(f -> {
            f.answer(kind, value);
            return null;
        });
    }

    int call(int slot, long a, long b, long c, long d) {
        return (int) changed(f -> f.call(slot, a, b, c, d));
    }

    boolean change(int k, int b) {
        return (boolean) changed(f -> f.change(k, b));
    }

    boolean cut(int n) {
        return (boolean) changed(f -> f.cut(n));
    }

    boolean isSubtype(int type, int of) {
        return next().isSubtype(type, of);
    }

    int slots() {
        return next().slots();
    }

    int slot(int k) {
        return next().slot(k);
    }

    long result() {
        return next().result();
    }

    int asked() {
        return next().asked();
    }

    long given(int i, int what) {
        return next().given(i, what);
    }

    int size() {
        return next().size();
    }

    int byteAt(int k) {
        return next().byteAt(k);
    }

    int read() {
        return next().read();
    }
}
