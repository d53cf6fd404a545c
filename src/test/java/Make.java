import java.util.Arrays;

/** What many tests make first. */
final class Make {
    static final int NONE = ProxyForge.NONE;
    static final int CONSTRUCTOR = 10;

    private Make() {
    }

    /** The number that stands for a method's parameters. */
    static int parameters(int... kinds) {
        int sum = 0;
        for (int i = kinds.length - 1; i >= 0; i--) {
            sum = sum * 32 + kinds[i];
        }
        return sum;
    }

    /** A class with a PUBLIC constructor without parameters. */
    static int base(Renewed x, int flags, int pack, int parent) {
        int type = x.type(false, flags, pack, parent);
        x.method(type, CONSTRUCTOR, 1, 0, 0);
        return type;
    }

    static int forge(Renewed x, int type, int... faces) {
        int[] all = Arrays.copyOf(faces, 3);
        Arrays.fill(all, faces.length, 3, NONE);
        return x.forge(type, all[0], all[1], all[2]);
    }

    static byte[] bytes(Renewed x) {
        byte[] file = new byte[x.size()];
        for (int k = 0; k < file.length; k++) {
            file[k] = (byte) x.byteAt(k);
        }
        return file;
    }
}
