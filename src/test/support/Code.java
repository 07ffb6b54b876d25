/** Writes the words of a THREAD's steps. */
final class Code {
    static final int MOVE = 1;
    static final int ADD = 2;
    static final int XOR = 3;
    static final int TIMES = 4;
    static final int LOAD = 5;
    static final int STORE = 6;
    static final int JUMP = 7;
    static final int SHIFT = 8;
    static final int MEASURE = 9;

    private Code() {
    }

    static int end(int a) {
        return word(0, a, 0, 0);
    }

    static int word(int kind, int a, int b, int c) {
        return (kind << 24) | (a << 16) | (b << 8) | c;
    }

    static int wide(int kind, int a, int n) {
        return (kind << 24) | (a << 16) | (n & 0xFFFF);
    }

    /** A page that begins with these words, the others 0. */
    static int[] page(int... words) {
        return java.util.Arrays.copyOf(words, 32);
    }

    static void poke(EnclaveMonitor x, int... words) {
        for (int k = 0; k < words.length; k++) {
            x.poke(k, words[k]);
        }
    }
}
