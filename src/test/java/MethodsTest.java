import java.util.Arrays;

/** Promises 4 and 5: methods and what they throw. */
public final class MethodsTest {
    private static final Check CHECK = new Check();
    private static final int CLASS = 4;
    private static final int ABSTRACT_CLASS = 5;
    private static final int FACE = 6;

    public static void main(String[] args) {
        rightMethods();
        wrongMethods();
        sixtyMethods();
        sameMethods();
        thrown();
        CHECK.end();
    }

    private static ProxyForge three() {
        ProxyForge x = new ProxyForge();
        x.type(false, 1, 0, 0);
        x.type(false, 5, 0, 0);
        x.type(true, 1, 0, 0);
        return x;
    }

    private static int parameters(int... kinds) {
        int sum = 0;
        for (int i = kinds.length - 1; i >= 0; i--) {
            sum = sum * 32 + kinds[i];
        }
        return sum;
    }

    private static void rightMethods() {
        ProxyForge x = three();
        int[][] right = {
            {CLASS, 10, 1, 0, 0}, {CLASS, 10, 4, parameters(1), 0}, {CLASS, 10, 0, parameters(2, 3, 4, 10), 0},
            {CLASS, 10, 2, parameters(10), 0}, {CLASS, 0, 0, 0, 0}, {CLASS, 9, 28, 0, 10}, {CLASS, 9, 26, 0, 4},
            {CLASS, 1, 20, parameters(3, 3, 3, 3), 3}, {ABSTRACT_CLASS, 1, 32, 0, 1}, {ABSTRACT_CLASS, 1, 33, 0, 2},
            {ABSTRACT_CLASS, 1, 34, 0, 3}, {ABSTRACT_CLASS, 10, 0, 0, 0}, {ABSTRACT_CLASS, 2, 17, 0, 0},
            {FACE, 1, 1, 0, 0}, {FACE, 1, 33, 1, 0},
        };
        int number = 4;
        for (int[] r : right) {
            CHECK.same("method" + Arrays.toString(r), number, x.method(r[0], r[1], r[2], r[3], r[4]));
            number++;
        }
    }

    private static void wrongMethods() {
        ProxyForge x = three();
        int[][] wrong = {
            {0, 1, 1, 0, 0}, {3, 1, 1, 0, 0}, {7, 1, 1, 0, 0}, {-1, 1, 1, 0, 0}, {CLASS, 11, 1, 0, 0},
            {CLASS, -1, 1, 0, 0}, {CLASS, 1, 64, 0, 0}, {CLASS, 1, -1, 0, 0}, {CLASS, 1, 3, 0, 0}, {CLASS, 1, 5, 0, 0},
            {CLASS, 1, 6, 0, 0}, {CLASS, 1, 7, 0, 0}, {CLASS, 1, 33, 0, 0}, {ABSTRACT_CLASS, 1, 36, 0, 0},
            {ABSTRACT_CLASS, 1, 40, 0, 0}, {ABSTRACT_CLASS, 1, 48, 0, 0}, {CLASS, 10, 9, 0, 0}, {CLASS, 10, 17, 0, 0},
            {ABSTRACT_CLASS, 10, 33, 0, 0}, {CLASS, 10, 1, 0, 1}, {CLASS, 10, 1, 0, 4}, {FACE, 10, 1, 0, 0},
            {FACE, 1, 0, 0, 0}, {FACE, 1, 2, 0, 0}, {FACE, 1, 4, 0, 0}, {FACE, 1, 9, 0, 0}, {FACE, 1, 17, 0, 0},
            {FACE, 1, 32, 0, 0}, {FACE, 1, 34, 0, 0}, {CLASS, 1, 1, 0, -1}, {CLASS, 1, 1, 0, 11},
            {CLASS, 1, 1, 0, 32}, {CLASS, 1, 1, parameters(11), 0}, {CLASS, 1, 1, parameters(31), 0},
            {CLASS, 1, 1, parameters(1, 0, 1), 0}, {CLASS, 1, 1, parameters(0, 1), 0},
            {CLASS, 1, 1, parameters(1, 1, 1, 1, 1), 0}, {CLASS, 1, 1, 1 << 20, 0}, {CLASS, 1, 1, -1, 0},
            {CLASS, 1, 1, Integer.MIN_VALUE, 0}, {CLASS, 1, 1, Integer.MIN_VALUE + 1, 0},
            {CLASS, Integer.MAX_VALUE, 1, 0, 0}, {CLASS, 1, 1, 0, Integer.MIN_VALUE},
        };
        for (int[] w : wrong) {
            CHECK.illegal("method" + Arrays.toString(w), () -> x.method(w[0], w[1], w[2], w[3], w[4]));
        }
        CHECK.same("nothing was made", 4, x.method(CLASS, 1, 1, 0, 0));
        x.type(false, 1, 0, 0);
        CHECK.same("a type that is there by now", 5, x.method(CLASS, 1, 1, parameters(11), 11));
    }

    private static void sixtyMethods() {
        ProxyForge x = three();
        for (int m = 4; m < 60; m++) {
            CHECK.same("method", m, x.method(CLASS, m % 10, 1, parameters(1 + m / 10), 0));
        }
        CHECK.full("method 60", () -> x.method(CLASS, 1, 1, 0, 0));
        CHECK.illegal("a wrong method 60", () -> x.method(CLASS, 1, 1, 0, 99));
        CHECK.illegal("method 60, there already", () -> x.method(CLASS, 4, 1, parameters(1), 0));
    }

    private static void sameMethods() {
        ProxyForge x = three();
        x.method(CLASS, 1, 1, 1, 1);
        CHECK.illegal("the same", () -> x.method(CLASS, 1, 1, 1, 1));
        CHECK.illegal("the same with other flags", () -> x.method(CLASS, 1, 28, 1, 1));
        CHECK.same("another name", 5, x.method(CLASS, 2, 1, 1, 1));
        CHECK.same("other parameters", 6, x.method(CLASS, 1, 1, 2, 1));
        CHECK.same("another returned kind", 7, x.method(CLASS, 1, 1, 1, 2));
        CHECK.same("another type", 8, x.method(ABSTRACT_CLASS, 1, 1, 1, 1));
        x.method(CLASS, 10, 1, 0, 0);
        CHECK.illegal("the same constructor", () -> x.method(CLASS, 10, 4, 0, 0));
    }

    private static void thrown() {
        ProxyForge x = three();
        int error = x.type(false, 1, 0, 2);
        int m = x.method(CLASS, 1, 1, 0, 0);
        for (int first = 0; first < 4; first++) {
            int method = first;
            CHECK.illegal("of method " + first, () -> x.throwing(method, 1));
        }
        CHECK.illegal("of none", () -> x.throwing(5, 1));
        CHECK.illegal("of none", () -> x.throwing(-1, 1));
        CHECK.illegal("an object", () -> x.throwing(m, 0));
        CHECK.illegal("a class", () -> x.throwing(m, CLASS));
        CHECK.illegal("an interface", () -> x.throwing(m, FACE));
        CHECK.illegal("none", () -> x.throwing(m, 8));
        CHECK.illegal("none", () -> x.throwing(m, -1));
        x.throwing(m, error);
        CHECK.illegal("again", () -> x.throwing(m, error));
        x.throwing(m, 2);
        x.throwing(m, 1);
        CHECK.illegal("a fourth", () -> x.throwing(m, 3));
        int constructor = x.method(CLASS, 10, 1, 0, 0);
        x.throwing(constructor, 3);
        CHECK.illegal("again", () -> x.throwing(constructor, 3));
    }
}
