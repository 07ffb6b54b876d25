/** Promises 14, 15 and 18, KEY and MARK of promise 1, and what BLOBs that others made bring. */
public final class SealTest {
    private static final int NONE = EnclaveMonitor.NONE;
    private static final long SEED = 0x0123456789ABCDEFL;
    private static final Seals SEALS = new Seals(SEED);
    private static final int THREAD = 1;
    private static final int DATA = 2;
    private static final int VERSIONS = 3;
    private static final Check CHECK = new Check();

    private SealTest() {
    }

    public static void main(String[] args) {
        blobOfData();
        blobOfThread();
        seeds();
        evictRefused();
        evictCounts();
        everySlot();
        reloadGivesBack();
        reloadRefused();
        everyWordIsTagged();
        wrongVersion();
        ofAnotherEnclave();
        forgedType();
        forgedAddressAndRights();
        severalWithOneAddress();
        forgedThread();
        forgedPlaces();
        wideNumbers();
        removedVersions();
        CHECK.end("SealTest");
    }

    private static void due(String call, long got, long want) {
        CHECK.due(call, got, want);
    }

    /** Enclave 0, THREAD 1 with ENTRY 0, DATA 2 with these words at ADDRESS 0, VERSIONS 3. */
    private static EnclaveMonitor ready(long seed, int... code) {
        EnclaveMonitor x = new EnclaveMonitor(12, seed);
        x.create(0);
        x.thread(0, THREAD, 0);
        Code.poke(x, Code.page(code));
        x.data(0, DATA, 0, 7);
        x.finalise(0);
        x.versions(VERSIONS);
        return x;
    }

    private static void dueBlob(String when, EnclaveMonitor x, int[] want) {
        for (int k = 0; k < 48; k++) {
            due(when + " blob word " + k, x.buffer(k), want[k]);
        }
    }

    private static int[] bufferOf(EnclaveMonitor x) {
        int[] words = new int[64];
        for (int k = 0; k < 64; k++) {
            words[k] = x.buffer(k);
        }
        return words;
    }

    private static void blobOfData() {
        EnclaveMonitor x = new EnclaveMonitor(8, SEED);
        int[] words = new int[32];
        for (int k = 0; k < 64; k++) {
            x.poke(k, 7919 * k - 3);
        }
        for (int k = 0; k < 32; k++) {
            words[k] = 7919 * k - 3;
        }
        x.create(7);
        x.create(6);
        x.data(6, 0, 30, 5);
        x.finalise(6);
        x.versions(5);
        due("evict", x.evict(0, 5, 15), 0);
        dueBlob("data", x, SEALS.blob(3, 30, 5, 2, 1L, words));
        for (int k = 48; k < 64; k++) {
            due("BUFFER's word " + k + " stays", x.buffer(k), 7919 * k - 3);
        }
        int[] free = {0, NONE, NONE, 0, 0, NONE, 0, 0};
        for (int k = 0; k < free.length; k++) {
            due("it is FREE: " + k, x.page(0, k), free[k]);
        }
        due("slot", x.slot(5, 15), 1);
        due("another slot", x.slot(5, 14), 0);
        due("owns", x.page(6, 6), 0);
        x.create(1);
        x.thread(1, 0, 5);
        int[] fresh = Seals.added(new int[8], 2, 5, 0, Code.page(5));
        due("its words are 0", x.measure(1, 3), fresh[3]);
    }

    private static void blobOfThread() {
        EnclaveMonitor x = ready(SEED, Code.wide(Code.MOVE, 7, -9), Code.end(0));
        due("saved", x.enter(THREAD, 5, 6, 1), 2);
        due("evict", x.evict(THREAD, VERSIONS, 0), 0);
        int[] words = Code.page(0, 1, 1, 5, 6, 0, 0, 0, 0, 0, -9);
        dueBlob("thread", x, SEALS.blob(2, 0, 0, 1, 1L, words));
        due("reload", x.reload(9, 0, VERSIONS, 0), 0);
        due("SAVED", x.page(9, 7), 1);
        due("goes on", x.resume(9, 5), 0);
        due("with", x.told(1), 5);
    }

    private static void seeds() {
        long[] seeds = {0L, 1L, -1L, 1L << 32, 0xFFFFFFFFL, Long.MIN_VALUE, Long.MAX_VALUE};
        for (long seed : seeds) {
            EnclaveMonitor x = ready(seed, 1, 2, 3);
            due("evict", x.evict(DATA, VERSIONS, 0), 0);
            dueBlob("seed " + seed, x, new Seals(seed).blob(3, 0, 7, 1, 1L, Code.page(1, 2, 3)));
        }
    }

    private static void evictRefused() {
        EnclaveMonitor x = ready(SEED, 4, 5);
        x.create(4);
        x.data(4, 5, 0, 7);
        int[] before = bufferOf(x);
        for (int page : new int[] {-1, 0, VERSIONS, 6, 12, Integer.MAX_VALUE, Integer.MIN_VALUE}) {
            due("page " + page, x.evict(page, VERSIONS, 0), 1);
        }
        for (int page : new int[] {-1, 0, THREAD, DATA, 6, 12, Integer.MAX_VALUE}) {
            due("versions " + page, x.evict(DATA, page, 0), 1);
        }
        due("1 comes ahead of 2", x.evict(5, 0, 0), 1);
        due("1 comes ahead of 3", x.evict(DATA, 0, 16), 1);
        due("OPEN", x.evict(5, VERSIONS, 0), 2);
        due("2 comes ahead of 3", x.evict(5, VERSIONS, 16), 2);
        for (int slot : new int[] {-1, 16, Integer.MAX_VALUE, Integer.MIN_VALUE}) {
            due("slot " + slot, x.evict(DATA, VERSIONS, slot), 3);
        }
        for (int k = 0; k < 64; k++) {
            due("BUFFER stays", x.buffer(k), before[k]);
        }
        due("no letting go", x.count(6), 0);
        due("DATA still", x.page(DATA, 0), 3);
        due("evict", x.evict(DATA, VERSIONS, 0), 0);
        due("its number is the first", x.slot(VERSIONS, 0), 1);
        due("the slot is taken", x.evict(THREAD, VERSIONS, 0), 3);
        due("THREAD still", x.page(THREAD, 0), 2);
        x.stop(0);
        due("STOPPED", x.evict(THREAD, VERSIONS, 1), 2);
        due("STOPPED ahead of 3", x.evict(THREAD, VERSIONS, 0), 2);
    }

    private static void evictCounts() {
        EnclaveMonitor x = ready(SEED, 4, 5);
        x.versions(4);
        for (int k = 1; k <= 5; k++) {
            due("evict", x.evict(DATA, 4, 2 * k), 0);
            dueBlob("letting go " + k, x, SEALS.blob(3, 0, 7, 1, k, Code.page(4, 5)));
            due("slot", x.slot(4, 2 * k), k);
            due("letting goes", x.count(6), k);
            due("takings back", x.count(7), k - 1);
            due("FREE", x.count(1), 8);
            due("DATA", x.count(4), 0);
            due("reload", x.reload(DATA, 0, 4, 2 * k), 0);
            due("slot is 0", x.slot(4, 2 * k), 0);
            due("takings back", x.count(7), k);
            due("DATA", x.count(4), 1);
        }
    }

    private static void everySlot() {
        EnclaveMonitor x = new EnclaveMonitor(40, SEED);
        x.create(0);
        for (int k = 0; k < 16; k++) {
            x.poke(0, 100 + k);
            x.data(0, 1 + k, k, 1);
        }
        x.finalise(0);
        x.versions(39);
        for (int k = 0; k < 16; k++) {
            due("evict " + k, x.evict(1 + k, 39, k), 0);
        }
        for (int k = 0; k < 16; k++) {
            due("slot " + k, x.slot(39, k), 1 + k);
        }
        due("slot -1", x.slot(39, -1), 0);
        due("slot 16", x.slot(39, 16), 0);
        due("slot of an enclave", x.slot(0, 0), 0);
        due("slot of a FREE page", x.slot(1, 0), 0);
        due("slot of no page", x.slot(40, 0), 0);
        due("slot of no page", x.slot(-1, 0), 0);
        Code.poke(x, SEALS.blob(3, 7, 1, 1, 8L, Code.page(107)));
        due("reload", x.reload(20, 0, 39, 7), 0);
        for (int k = 0; k < 16; k++) {
            due("slot " + k, x.slot(39, k), k == 7 ? 0 : 1 + k);
        }
    }

    private static void reloadGivesBack() {
        EnclaveMonitor x = ready(SEED, Code.word(Code.LOAD, 2, 0, 0), Code.end(2), 987654321);
        x.evict(DATA, VERSIONS, 6);
        int[] before = bufferOf(x);
        int measure = x.measure(0, 0);
        due("no code", x.enter(THREAD, 2, 0, 9), 1);
        due("its page", x.told(2), 0);
        due("reload", x.reload(11, 0, VERSIONS, 6), 0);
        int[] want = {3, 0, 0, 7, 0, NONE, 0, 0};
        for (int k = 0; k < want.length; k++) {
            due("taken back: " + k, x.page(11, k), want[k]);
        }
        for (int k = 0; k < 64; k++) {
            due("BUFFER stays", x.buffer(k), before[k]);
        }
        due("MEASURE stays", x.measure(0, 0), measure);
        due("owns", x.page(0, 6), 2);
        due("goes on", x.resume(THREAD, 9), 0);
        due("with", x.told(1), 987654321);
    }

    private static void reloadRefused() {
        EnclaveMonitor x = ready(SEED, 4, 5);
        x.create(4);
        x.evict(DATA, VERSIONS, 6);
        for (int page : new int[] {-1, 0, THREAD, VERSIONS, 4, 12, Integer.MAX_VALUE}) {
            due("page " + page, x.reload(page, 0, VERSIONS, 6), 1);
        }
        for (int page : new int[] {-1, THREAD, DATA, VERSIONS, 12, Integer.MIN_VALUE}) {
            due("enclave " + page, x.reload(DATA, page, VERSIONS, 6), 1);
        }
        for (int page : new int[] {-1, 0, THREAD, DATA, 12, Integer.MIN_VALUE}) {
            due("versions " + page, x.reload(DATA, 0, page, 6), 1);
        }
        due("1 comes ahead of 2", x.reload(THREAD, 4, VERSIONS, 6), 1);
        due("OPEN", x.reload(DATA, 4, VERSIONS, 6), 2);
        due("2 comes ahead of 3", x.reload(DATA, 4, VERSIONS, 16), 2);
        for (int slot : new int[] {-1, 16, Integer.MAX_VALUE, Integer.MIN_VALUE}) {
            due("slot " + slot, x.reload(DATA, 0, VERSIONS, slot), 3);
        }
        x.poke(0, 2);
        due("3 comes ahead of 4", x.reload(DATA, 0, VERSIONS, 16), 3);
        due("4 comes ahead of 5", x.reload(DATA, 0, VERSIONS, 5), 4);
        x.poke(0, 3);
        due("5", x.reload(DATA, 0, VERSIONS, 5), 5);
        due("by 4", x.count(8), 1);
        due("by 5", x.count(9), 1);
        due("none taken back", x.count(7), 0);
        due("FREE still", x.page(DATA, 0), 0);
        due("slot stays", x.slot(VERSIONS, 6), 1);
        x.stop(4);
        due("STOPPED", x.reload(DATA, 4, VERSIONS, 6), 2);
        due("reload", x.reload(DATA, 0, VERSIONS, 6), 0);
    }

    private static void everyWordIsTagged() {
        EnclaveMonitor x = ready(SEED, 4, 5);
        x.evict(DATA, VERSIONS, 6);
        for (int k = 0; k < 48; k++) {
            int word = x.buffer(k);
            x.poke(k, word ^ (1 << (k % 32)));
            due("word " + k + " changed", x.reload(DATA, 0, VERSIONS, 6), 4);
            x.poke(k, word);
        }
        due("by 4", x.count(8), 48);
        for (int k = 48; k < 64; k++) {
            x.poke(k, -k);
        }
        due("others are not", x.reload(DATA, 0, VERSIONS, 6), 0);
        x = ready(SEED, 4, 5);
        Code.poke(x, new int[64]);
        due("all 0", x.reload(5, 0, VERSIONS, 6), 4);
    }

    private static void wrongVersion() {
        EnclaveMonitor x = ready(SEED, 4, 5);
        x.evict(DATA, VERSIONS, 6);
        int[] old = bufferOf(x);
        due("an empty slot", x.reload(DATA, 0, VERSIONS, 7), 5);
        due("reload", x.reload(DATA, 0, VERSIONS, 6), 0);
        due("twice", x.reload(8, 0, VERSIONS, 6), 5);
        x.evict(DATA, VERSIONS, 6);
        int[] young = bufferOf(x);
        Code.poke(x, old);
        due("an old one", x.reload(DATA, 0, VERSIONS, 6), 5);
        Code.poke(x, young);
        due("the young one", x.reload(DATA, 0, VERSIONS, 6), 0);
        Code.poke(x, SEALS.blob(3, 0, 7, 1, 0L, new int[32]));
        due("number 0 in a slot that is 0", x.reload(8, 0, VERSIONS, 6), 5);
        due("by 5", x.count(9), 4);
        due("by 4", x.count(8), 0);
        due("takings back", x.count(7), 2);
        due("letting goes", x.count(6), 2);
    }

    private static void ofAnotherEnclave() {
        EnclaveMonitor x = ready(SEED, 4, 5);
        x.create(4);
        x.finalise(4);
        x.evict(DATA, VERSIONS, 6);
        due("another enclave", x.reload(DATA, 4, VERSIONS, 6), 5);
        due("by 5", x.count(9), 1);
        x.stop(0);
        x.remove(THREAD);
        due("its enclave goes", x.remove(0), 0);
        x.create(0);
        x.finalise(0);
        due("a new one in its page", x.reload(DATA, 0, VERSIONS, 6), 5);
        due("by 5", x.count(9), 2);
    }

    private static void forgedType() {
        for (int type : new int[] {0, 1, 3, 4, 5, -1, 258, Integer.MIN_VALUE}) {
            EnclaveMonitor x = ready(SEED, 4, 5);
            x.evict(DATA, VERSIONS, 6);
            Code.poke(x, SEALS.blob(type, 9, 6, 1, 1L, Code.page(8)));
            due("type " + type, x.reload(DATA, 0, VERSIONS, 6), 0);
            int[] want = {3, 0, 9, 6, 0, NONE, 0, 0};
            for (int k = 0; k < want.length; k++) {
                due("type " + type + ": " + k, x.page(DATA, k), want[k]);
            }
            due("evict", x.evict(DATA, VERSIONS, 0), 0);
            dueBlob("it is DATA now", x, SEALS.blob(3, 9, 6, 1, 2L, Code.page(8)));
        }
    }

    private static void forgedAddressAndRights() {
        int[][] cases = {{32, 7}, {-1, -1}, {Integer.MIN_VALUE, Integer.MAX_VALUE}, {1, 8}, {1, 9},
            {1, -8}, {33, 7}};
        for (int[] c : cases) {
            EnclaveMonitor x = ready(SEED, Code.word(Code.LOAD, 2, 0, 0), Code.end(2));
            x.create(4);
            x.data(4, 5, 0, 7);
            x.finalise(4);
            x.evict(5, VERSIONS, 6);
            Code.poke(x, SEALS.blob(3, c[0], c[1], 1, 1L, Code.page(808)));
            due("reload", x.reload(10, 0, VERSIONS, 6), 0);
            due("ADDRESS", x.page(10, 2), c[0]);
            due("RIGHTS", x.page(10, 3), c[1]);
            boolean read = c[0] == 1 && (c[1] & 1) != 0;
            due("load", x.enter(THREAD, 32, 0, 9), read ? 0 : 1);
            due("page", x.told(2), read ? NONE : 1);
            due("with", x.told(1), read ? 808 : 0);
            due("evict", x.evict(10, VERSIONS, 6), 0);
            dueBlob("as it was", x, SEALS.blob(3, c[0], c[1], 1, 2L, Code.page(808)));
        }
    }

    private static void severalWithOneAddress() {
        EnclaveMonitor x = new EnclaveMonitor(12, SEED);
        x.create(0);
        x.thread(0, 1, 0);
        Code.poke(x, Code.page(Code.word(Code.LOAD, 2, 0, 0), Code.end(2)));
        x.data(0, 2, 0, 7);
        x.data(0, 3, 4, 1);
        x.data(0, 4, 5, 1);
        x.finalise(0);
        x.versions(5);
        x.evict(3, 5, 0);
        x.evict(4, 5, 1);
        Code.poke(x, SEALS.blob(3, 4, 1, 1, 1L, Code.page(111)));
        due("reload high", x.reload(9, 0, 5, 0), 0);
        due("load", x.enter(1, 128, 0, 9), 0);
        due("the only one", x.told(1), 111);
        Code.poke(x, SEALS.blob(3, 4, 3, 1, 2L, Code.page(222)));
        due("reload low", x.reload(6, 0, 5, 1), 0);
        due("load", x.enter(1, 128, 0, 9), 0);
        due("the least", x.told(1), 222);
        due("let the least go", x.evict(6, 5, 1), 0);
        due("load", x.enter(1, 128, 0, 9), 0);
        due("the other", x.told(1), 111);
        Code.poke(x, SEALS.blob(3, 4, 6, 1, 3L, Code.page(222)));
        due("reload it without the right", x.reload(6, 0, 5, 1), 0);
        due("the least has not the right", x.enter(1, 128, 0, 9), 1);
        due("page", x.told(2), 4);
    }

    private static void forgedThread() {
        int[] words = new int[32];
        for (int k = 0; k < 32; k++) {
            words[k] = 1000 + k;
        }
        words[2] = 0;
        EnclaveMonitor x = ready(SEED, Code.wide(Code.MOVE, 3, 5), Code.end(7));
        x.evict(THREAD, VERSIONS, 6);
        Code.poke(x, SEALS.blob(2, 9, 6, 1, 1L, words));
        due("reload", x.reload(10, 0, VERSIONS, 6), 0);
        int[] want = {2, 0, NONE, 0, 0, NONE, 0, 1};
        for (int k = 0; k < want.length; k++) {
            due("THREAD: " + k, x.page(10, k), want[k]);
        }
        due("it is SAVED", x.enter(10, 0, 0, 1), -2);
        due("resume", x.resume(10, 1), 2);
        due("evict", x.evict(10, VERSIONS, 6), 0);
        int[] after = words.clone();
        after[1] = 1;
        after[2] = 1;
        after[6] = 5;
        dueBlob("after a step", x, SEALS.blob(2, 0, 0, 1, 2L, after));
        x.reload(10, 0, VERSIONS, 6);
        due("end", x.resume(10, 1), 0);
        due("with R7", x.told(1), 1010);
        due("evict", x.evict(10, VERSIONS, 6), 0);
        int[] idle = words.clone();
        java.util.Arrays.fill(idle, 1, 11, 0);
        dueBlob("after the end", x, SEALS.blob(2, 0, 0, 1, 3L, idle));
        x.reload(10, 0, VERSIONS, 6);
        due("ENTRY 1000", x.enter(10, 0, 0, 1), 1);
        due("page 31", x.told(2), 31);
        due("evict", x.evict(10, VERSIONS, 6), 0);
        idle[1] = 1;
        idle[2] = 1000;
        dueBlob("the words behind the registers stay", x, SEALS.blob(2, 0, 0, 1, 4L, idle));
    }

    private static void forgedPlaces() {
        int[] places = {-1, 1024, Integer.MIN_VALUE, Integer.MAX_VALUE};
        for (int place : places) {
            EnclaveMonitor x = ready(SEED, Code.end(0));
            x.evict(THREAD, VERSIONS, 6);
            Code.poke(x, SEALS.blob(2, 0, 0, 1, 1L, Code.page(place, 0, 7, 7, 7, 7, 7, 7, 7, 7, 7)));
            due("reload", x.reload(10, 0, VERSIONS, 6), 0);
            due("IDLE", x.page(10, 7), 0);
            due("ENTRY " + place, x.enter(10, 3, 4, 5), 1);
            due("page", x.told(2), NONE);
            due("evict", x.evict(10, VERSIONS, 6), 0);
            dueBlob("registers", x, SEALS.blob(2, 0, 0, 1, 2L, Code.page(place, 1, place, 3, 4)));
            Code.poke(x, SEALS.blob(2, 0, 0, 1, 2L, Code.page(0, -4, place)));
            due("reload", x.reload(10, 0, VERSIONS, 6), 0);
            due("SAVED", x.page(10, 7), 1);
            due("PC " + place, x.resume(10, 5), 1);
            due("page", x.told(2), NONE);
        }
    }

    private static void wideNumbers() {
        EnclaveMonitor x = ready(SEED, 4, 5);
        x.evict(DATA, VERSIONS, 6);
        Code.poke(x, SEALS.blob(3, 0, 7, 1, (1L << 32) + 1, new int[32]));
        due("the upper half counts", x.reload(DATA, 0, VERSIONS, 6), 5);
        Code.poke(x, SEALS.blob(3, 0, 7, 1, 1L << 32, new int[32]));
        due("the halves are not changed about", x.reload(DATA, 0, VERSIONS, 6), 5);
        Code.poke(x, SEALS.blob(3, 0, 7, 1, 0xFFFFFFFFL, new int[32]));
        due("another", x.reload(DATA, 0, VERSIONS, 6), 5);
        due("by 5", x.count(9), 3);
    }

    private static void removedVersions() {
        EnclaveMonitor x = ready(SEED, 4, 5);
        x.evict(DATA, VERSIONS, 6);
        due("remove", x.remove(VERSIONS), 0);
        due("versions", x.versions(VERSIONS), 0);
        due("nothing is left in it", x.slot(VERSIONS, 6), 0);
        due("nor can be taken back", x.reload(DATA, 0, VERSIONS, 6), 5);
    }
}
