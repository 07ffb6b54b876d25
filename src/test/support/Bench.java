/**
 * A monitor with one enclave for trying steps. Coins are DATA pages that are let go for the sake of
 * their number, with which any page can be forged and taken back.
 */
final class Bench {
    static final long SEED = -987654321012345L;
    static final Seals SEALS = new Seals(SEED);
    static final int ENCLAVE = 0;
    static final int THREAD = 1;
    static final int CODE = 2;
    static final int VERSIONS = 3;
    private static final int FIRST_COIN = 13;
    private static final int COINS = 3;
    /** The coins' ADDRESSes are 28 .. 30, without any right. */
    private static final int COIN_ADDRESS = 28;

    final EnclaveMonitor x = new EnclaveMonitor(16, SEED);
    private int spent;
    private int looks;

    private Bench(int entry) {
        x.create(ENCLAVE);
        x.thread(ENCLAVE, THREAD, entry);
        for (int k = 0; k < COINS; k++) {
            x.data(ENCLAVE, FIRST_COIN + k, COIN_ADDRESS + k, 0);
        }
    }

    /** An OPEN enclave with a THREAD. */
    static Bench open(int entry) {
        return new Bench(entry);
    }

    /** A FINAL enclave with these steps at ADDRESS 0, with all rights. */
    static Bench ready(int... code) {
        return open(0).with(CODE, 0, 7, code).close();
    }

    Bench with(int page, int address, int rights, int... words) {
        Code.poke(x, Code.page(words));
        x.data(ENCLAVE, page, address, rights);
        return this;
    }

    Bench close() {
        x.finalise(ENCLAVE);
        x.versions(VERSIONS);
        return this;
    }

    /** A page of the enclave, as a BLOB that others made would bring it. */
    Bench forge(int page, int type, int address, int rights, int... words) {
        x.evict(FIRST_COIN + spent, VERSIONS, spent);
        long number = x.slot(VERSIONS, spent);
        Code.poke(x, SEALS.blob(type, address, rights, 1, number, Code.page(words)));
        x.reload(page, ENCLAVE, VERSIONS, spent);
        spent++;
        return this;
    }

    /** The THREAD is taken away, and comes back with these words. */
    Bench forgeThread(int... words) {
        x.evict(THREAD, VERSIONS, 15);
        return forge(THREAD, 2, 0, 0, words);
    }

    /** Lets a page go and reads its words out of the BLOB. */
    int[] wordsOf(int page) {
        if (x.evict(page, VERSIONS, 14 - looks) != 0) {
            throw new IllegalStateException("a test looks into a page that can't be let go");
        }
        looks++;
        int[] stream = SEALS.stream(x.buffer(4), x.buffer(5));
        int[] words = new int[32];
        for (int k = 0; k < 32; k++) {
            words[k] = x.buffer(8 + k) ^ stream[k];
        }
        return words;
    }
}
