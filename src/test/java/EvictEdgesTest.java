import java.util.Arrays;

/** The boundary cases of Terms 2 (SEALING) and of promise 14, a sentence each. */
public final class EvictEdgesTest {
    private static final int LEAST = Integer.MIN_VALUE;
    private static final int MOST = Integer.MAX_VALUE;
    private static final Seals SEALS = new Seals(House.SEED);
    private static final Edges EDGES = new Edges();

    private EvictEdgesTest() {
    }

    public static void main(String[] args) {
        measureAtFirst();
        measureOfAThread();
        measureOfData();
        measureOfSeveral();
        measureIsFinal();
        measureStays();

        blobOfData();
        blobOfAThread();
        blobOfAThreadWhereDataWas();
        blobIdent();
        blobNumber();
        blobZeros();
        blobStream();
        blobTag();
        bufferBehindTheBlob();
        halvesOfTheNumber();

        evictLetsGo();
        evictNoThreadOrData();
        evictNoVersions();
        evictOwnerNotFinal();
        evictSlots();
        evictSlotNotZero();
        evictFirstThatHolds();
        EDGES.end("EvictEdgesTest");
    }

    private static void due(String call, long got, long want) {
        EDGES.due(call, got, want);
    }

    private static void dueMeasure(String when, EnclaveMonitor x, int enclave, int[] want) {
        for (int k = 0; k < 8; k++) {
            due(when + ", " + State.measure(enclave, k), x.measure(enclave, k), want[k]);
        }
    }

    private static void dueBlob(String when, EnclaveMonitor x, int[] want) {
        for (int k = 0; k < 48; k++) {
            due(when + ", " + State.buffer(k), x.buffer(k), want[k]);
        }
    }

    private static void measureAtFirst() {
        EDGES.of("MEASURE: 8 words 0 at first");
        EnclaveMonitor x = new EnclaveMonitor(8, -1L);
        x.create(0);
        dueMeasure("created", x, 0, new int[8]);
    }

    private static void measureOfAThread() {
        EDGES.of("MEASURE: SHA-256 of 44 words: (THREAD: ENTRY), (THREAD: 0), 0, (THREAD: as it is added)");
        for (int entry : new int[] {0, 1, 255, 256, 1023}) {
            EnclaveMonitor x = new EnclaveMonitor(8, -1L);
            x.poke(0, 5);
            x.poke(31, 6);
            x.create(0);
            x.thread(0, 1, entry);
            dueMeasure("ENTRY " + entry, x, 0, Seals.added(new int[8], 2, entry, 0, Code.page(entry)));
        }
    }

    private static void measureOfData() {
        EDGES.of("MEASURE: SHA-256 of 44 words: itself, TYPE, ADDRESS, RIGHTS, 0, the page's 32 words");
        int[][] cases = {{0, 0, 0}, {31, 7, -1}, {1, 4, LEAST}, {30, 3, MOST}, {7, 1, 0x01020304}};
        for (int[] c : cases) {
            EnclaveMonitor x = new EnclaveMonitor(8, -1L);
            int[] words = new int[32];
            Arrays.fill(words, c[2]);
            Code.poke(x, words);
            x.create(0);
            x.data(0, 1, c[0], c[1]);
            dueMeasure("ADDRESS " + c[0], x, 0, Seals.added(new int[8], 3, c[0], c[1], words));
        }
    }

    private static void measureOfSeveral() {
        EDGES.of("MEASURE: as a page is added it becomes the SHA-256 of itself and the page");
        EnclaveMonitor x = new EnclaveMonitor(40, -1L);
        int[] want = new int[8];
        x.create(39);
        for (int k = 0; k < 32; k++) {
            x.poke(k, -k);
            int[] words = new int[32];
            for (int w = 0; w <= k; w++) {
                words[w] = -w;
            }
            x.data(39, k, 31 - k, k % 8);
            want = Seals.added(want, 3, 31 - k, k % 8, words);
            due("word 7 behind page " + k, x.measure(39, 7), want[7]);
        }
        x.thread(39, 38, 9);
        dueMeasure("a THREAD comes last", x, 39, Seals.added(want, 2, 9, 0, Code.page(9)));
    }

    private static void measureIsFinal() {
        EDGES.of("MEASURE: as it is FINAL the SHA-256 of 9 words: itself, -1");
        EnclaveMonitor x = new EnclaveMonitor(8, -1L);
        x.create(0);
        x.create(1);
        x.data(1, 2, 3, 4);
        x.finalise(0);
        x.finalise(1);
        dueMeasure("without pages", x, 0, Seals.finalised(new int[8]));
        dueMeasure("with one", x, 1, Seals.finalised(Seals.added(new int[8], 3, 3, 4, new int[32])));
    }

    private static void measureStays() {
        EDGES.of("MEASURE: no other call changes it");
        EnclaveMonitor x = House.make();
        int[] words = House.goneWords();
        int[] want = Seals.added(new int[8], 3, 0, 7, words);
        want = Seals.added(want, 2, 0, 0, Code.page(0));
        want = Seals.added(want, 2, 1, 0, Code.page(1));
        want = Seals.added(want, 3, House.GONE_ADDRESS, House.GONE_RIGHTS, words);
        want = Seals.finalised(want);
        dueMeasure("evict", x, House.FINAL, want);
        x.reload(House.FREE, House.FINAL, House.VERSIONS, House.SLOT);
        dueMeasure("reload", x, House.FINAL, want);
        x.enter(House.IDLE, 0, 0, 9);
        dueMeasure("enter", x, House.FINAL, want);
        x.stop(House.FINAL);
        dueMeasure("stop", x, House.FINAL, want);
        x.remove(House.CODE);
        dueMeasure("remove", x, House.FINAL, want);
    }

    /** Enclave 0 with a THREAD 1 and DATA 2 with these, VERSIONS 3. */
    private static EnclaveMonitor sealing(int entry, int address, int rights, int... words) {
        EnclaveMonitor x = new EnclaveMonitor(8, House.SEED);
        x.create(0);
        x.thread(0, 1, entry);
        Code.poke(x, Code.page(words));
        x.data(0, 2, address, rights);
        x.finalise(0);
        x.versions(3);
        return x;
    }

    private static void blobOfData() {
        EDGES.of("A BLOB: 0 TYPE, 1 ADDRESS, 2 RIGHTS of DATA");
        int[][] cases = {{0, 0}, {0, 7}, {31, 0}, {31, 7}, {16, 5}};
        for (int[] c : cases) {
            EnclaveMonitor x = sealing(0, c[0], c[1], 6, 7, 8);
            due("evict", x.evict(2, 3, 0), 0);
            dueBlob("ADDRESS " + c[0], x, SEALS.blob(3, c[0], c[1], 1, 1L, Code.page(6, 7, 8)));
        }
    }

    private static void blobOfAThread() {
        EDGES.of("A BLOB: 1 ADDRESS (THREAD: 0), 2 RIGHTS (THREAD: 0)");
        for (int entry : new int[] {0, 1, 1023}) {
            EnclaveMonitor x = sealing(entry, 0, 7);
            x.poke(1, 5);
            x.poke(2, 5);
            due("evict", x.evict(1, 3, 0), 0);
            dueBlob("ENTRY " + entry, x, SEALS.blob(2, 0, 0, 1, 1L, Code.page(entry)));
        }
        Bench bench = Bench.ready().forge(5, 2, 17, 6, 3, 1, 4);
        due("one that came with others", bench.x.evict(5, Bench.VERSIONS, 9), 0);
        dueBlob("one that came with others", bench.x, Bench.SEALS.blob(2, 0, 0, 1, 2L, Code.page(3, 1, 4)));
    }

    private static void blobOfAThreadWhereDataWas() {
        EDGES.of("A BLOB: 1 ADDRESS (THREAD: 0), 2 RIGHTS (THREAD: 0), of a page that was DATA");
        EnclaveMonitor gone = sealing(9, 31, 7, -1, -1);
        due("evict THREAD", gone.evict(1, 3, 0), 0);
        int[] blob = new int[48];
        for (int k = 0; k < 48; k++) {
            blob[k] = gone.buffer(k);
        }
        due("evict DATA", gone.evict(2, 3, 1), 0);
        Code.poke(gone, blob);
        due("the THREAD comes to its page", gone.reload(2, 0, 3, 0), 0);
        due("evict", gone.evict(2, 3, 0), 0);
        dueBlob("let go", gone, SEALS.blob(2, 0, 0, 1, 3L, Code.page(9)));
        EnclaveMonitor removed = sealing(9, 31, 7, -1, -1);
        removed.stop(0);
        due("remove DATA", removed.remove(2), 0);
        removed.create(4);
        removed.thread(4, 2, 8);
        removed.finalise(4);
        due("evict", removed.evict(2, 3, 0), 0);
        dueBlob("removed", removed, SEALS.blob(2, 0, 0, 2, 1L, Code.page(8)));
    }

    private static void blobIdent() {
        EDGES.of("A BLOB: 3 IDENT of the owner");
        EnclaveMonitor x = new EnclaveMonitor(8, House.SEED);
        for (int k = 0; k < 5; k++) {
            x.create(6);
            x.stop(6);
            x.remove(6);
        }
        x.create(6);
        x.data(6, 7, 2, 3);
        x.finalise(6);
        x.versions(0);
        due("evict", x.evict(7, 0, 0), 0);
        dueBlob("IDENT 6 in page 6", x, SEALS.blob(3, 2, 3, 6, 1L, new int[32]));
    }

    private static void blobNumber() {
        EDGES.of("A BLOB: 4 the number of the letting go (1, 2, .. over all)");
        EnclaveMonitor x = new EnclaveMonitor(12, House.SEED);
        int number = 0;
        for (int e = 0; e < 2; e++) {
            x.create(e);
            x.data(e, 2 + e, 0, 0);
            x.thread(e, 4 + e, 0);
            x.finalise(e);
            x.versions(6 + e);
        }
        for (int p = 2; p <= 5; p++) {
            number++;
            due("refused", x.evict(p, 6, 16), 3);
            due("evict", x.evict(p, 6 + p % 2, p), 0);
            due("upper half", x.buffer(4), 0);
            due("lower half", x.buffer(5), number);
            due("SLOT", x.slot(6 + p % 2, p), number);
        }
        x.stop(0);
        due("remove its enclave", x.remove(0), 0);
        x.create(0);
        x.data(0, 2, 0, 0);
        x.finalise(0);
        due("evict", x.evict(2, 7, 9), 0);
        due("goes on", x.buffer(5), 5);
    }

    private static void blobZeros() {
        EDGES.of("A BLOB: 6 and 7 0");
        EnclaveMonitor x = sealing(0, 0, 7, 1, 2, 3, 4, 5, 6, 7, 8);
        for (int k = 0; k < 64; k++) {
            x.poke(k, -1);
        }
        due("evict", x.evict(2, 3, 0), 0);
        due("word 4", x.buffer(4), 0);
        due("word 6", x.buffer(6), 0);
        due("word 7", x.buffer(7), 0);
        dueBlob("all", x, SEALS.blob(3, 0, 7, 1, 1L, Code.page(1, 2, 3, 4, 5, 6, 7, 8)));
    }

    private static void blobStream() {
        EDGES.of("8 .. 39 the page's words, exclusive or with words 0 .. 15 of the block with counter 1, then 2");
        for (int word : new int[] {0, -1, LEAST, MOST}) {
            int[] words = new int[32];
            Arrays.fill(words, word);
            EnclaveMonitor x = sealing(0, 0, 7, words);
            for (int number = 1; number <= 3; number++) {
                due("evict", x.evict(2, 3, 0), 0);
                int[] stream = SEALS.stream(0, number);
                for (int k = 0; k < 32; k++) {
                    due("number " + number + ", word " + k, x.buffer(8 + k), word ^ stream[k]);
                }
                due("reload", x.reload(2, 0, 3, 0), 0);
            }
        }
    }

    private static void blobTag() {
        EDGES.of("40 .. 47 the HMAC-SHA-256 with MARK of words 0 .. 39");
        EnclaveMonitor x = sealing(0, 0, 7, -1, LEAST, MOST);
        x.evict(2, 3, 0);
        int[] blob = new int[40];
        for (int k = 0; k < 40; k++) {
            blob[k] = x.buffer(k);
        }
        int[] tag = SEALS.tag(blob);
        for (int k = 0; k < 8; k++) {
            due(State.buffer(40 + k), x.buffer(40 + k), tag[k]);
        }
    }

    private static void bufferBehindTheBlob() {
        EDGES.of("A BLOB, BUFFER's words 0 .. 47: the others stay");
        EnclaveMonitor x = sealing(0, 0, 7);
        for (int k = 48; k < 64; k++) {
            x.poke(k, LEAST + k);
        }
        x.evict(2, 3, 0);
        for (int k = 48; k < 64; k++) {
            due(State.buffer(k), x.buffer(k), LEAST + k);
        }
    }

    private static void halvesOfTheNumber() {
        EDGES.of("its upper half, 5 its lower half; SLOT k is its words 2 k (the upper half) and 2 k + 1");
        EnclaveMonitor x = sealing(0, 0, 7);
        for (int k = 1; k <= 150; k++) {
            due("evict", x.evict(2, 3, k % 16), 0);
            due("SLOT", x.slot(3, k % 16), k);
            due("reload", x.reload(2, 0, 3, k % 16), 0);
        }
    }

    private static void evictLetsGo() {
        EDGES.of("evict: its BLOB comes to BUFFER, the number of the letting go to a SLOT, it is FREE");
        for (int slot : new int[] {0, 15}) {
            int[] code = House.goneWords();
            Changes data = new Changes().free(House.CODE).set(State.page(House.FINAL, 6), 2)
                .set(State.slot(House.VERSIONS, slot), 2).set(State.count(6), 2)
                .set(State.count(1), 3).set(State.count(4), 2).buffer(SEALS.blob(3, 0, 7, 1, 2L, code));
            EDGES.changes("DATA", x -> x.evict(House.CODE, House.VERSIONS, slot), 0, data);
            int[] idle = new int[32];
            Changes thread = new Changes().free(House.IDLE).set(State.page(House.FINAL, 6), 2)
                .set(State.slot(House.VERSIONS, slot), 2).set(State.count(6), 2)
                .set(State.count(1), 3).set(State.count(3), 3).buffer(SEALS.blob(2, 0, 0, 1, 2L, idle));
            EDGES.changes("IDLE THREAD", x -> x.evict(House.IDLE, House.VERSIONS, slot), 0, thread);
            int[] saved = Code.page(1, 1, 2, 5, 6, 0, 7);
            Changes other = new Changes().free(House.SAVED).set(State.page(House.FINAL, 6), 2)
                .set(State.slot(House.VERSIONS, slot), 2).set(State.count(6), 2)
                .set(State.count(1), 3).set(State.count(3), 3).buffer(SEALS.blob(2, 0, 0, 1, 2L, saved));
            EDGES.changes("SAVED THREAD", x -> x.evict(House.SAVED, House.VERSIONS, slot), 0, other);
        }
    }

    private static void evictNoThreadOrData() {
        EDGES.of("evict: 1: page is no THREAD or DATA");
        for (int p : House.NO_PAGES) {
            EDGES.refused("page " + p, x -> x.evict(p, House.VERSIONS, 0), 1);
        }
        int[] others = {House.FINAL, House.VERSIONS, House.OPEN, House.STOPPED, House.FREE, House.BARE};
        for (int p : others) {
            EDGES.refused("page " + p, x -> x.evict(p, House.VERSIONS, 0), 1);
        }
    }

    private static void evictNoVersions() {
        EDGES.of("evict: 1: versions no VERSIONS");
        for (int v : House.NO_PAGES) {
            EDGES.refused("versions " + v, x -> x.evict(House.CODE, v, 0), 1);
        }
        int[] others = {House.FINAL, House.IDLE, House.SAVED, House.CODE, House.OPEN_DATA, House.FREE};
        for (int v : others) {
            EDGES.refused("versions " + v, x -> x.evict(House.CODE, v, 0), 1);
        }
    }

    private static void evictOwnerNotFinal() {
        EDGES.of("evict: 2: its OWNER is not FINAL");
        int[] pages = {House.OPEN_THREAD, House.OPEN_DATA, House.STOPPED_THREAD, House.STOPPED_DATA};
        for (int p : pages) {
            EDGES.refused("page " + p, x -> x.evict(p, House.VERSIONS, 0), 2);
        }
        EDGES.refusedAfter(x -> x.stop(House.FINAL),
            "FINAL, then STOPPED", x -> x.evict(House.CODE, House.VERSIONS, 0), 2);
        EnclaveMonitor x = House.make();
        x.finalise(House.OPEN);
        due("OPEN, then FINAL", x.evict(House.OPEN_DATA, House.VERSIONS, 0), 0);
    }

    private static void evictSlots() {
        EDGES.of("evict: 3: slot is not 0 .. 15");
        for (int slot : new int[] {-1, 16, LEAST, MOST}) {
            EDGES.refused("slot " + slot, x -> x.evict(House.CODE, House.VERSIONS, slot), 3);
            EDGES.refused("slot " + slot, x -> x.evict(House.IDLE, House.VERSIONS, slot), 3);
        }
        due("slot 0", House.make().evict(House.CODE, House.VERSIONS, 0), 0);
        due("slot 15", House.make().evict(House.CODE, House.VERSIONS, 15), 0);
    }

    private static void evictSlotNotZero() {
        EDGES.of("evict: 3: or not 0");
        EDGES.refused("DATA", x -> x.evict(House.CODE, House.VERSIONS, House.SLOT), 3);
        EDGES.refused("THREAD", x -> x.evict(House.SAVED, House.VERSIONS, House.SLOT), 3);
        due("one less", House.make().evict(House.CODE, House.VERSIONS, House.SLOT - 1), 0);
        due("one more", House.make().evict(House.CODE, House.VERSIONS, House.SLOT + 1), 0);
        EnclaveMonitor x = House.make();
        x.reload(House.FREE, House.FINAL, House.VERSIONS, House.SLOT);
        due("0 again", x.evict(House.CODE, House.VERSIONS, House.SLOT), 0);
    }

    private static void evictFirstThatHolds() {
        EDGES.of("evict: the first that holds");
        EDGES.refused("1 page, 3", x -> x.evict(House.FREE, House.VERSIONS, 16), 1);
        EDGES.refused("1 page, 3 taken", x -> x.evict(-1, House.VERSIONS, House.SLOT), 1);
        EDGES.refused("1 versions, 2", x -> x.evict(House.OPEN_DATA, House.CODE, 0), 1);
        EDGES.refused("1 versions, 3", x -> x.evict(House.CODE, House.SIZE, -1), 1);
        EDGES.refused("1 versions, 2, 3", x -> x.evict(House.STOPPED_DATA, House.FREE, -1), 1);
        EDGES.refused("1 by two", x -> x.evict(House.VERSIONS, House.CODE, 0), 1);
        EDGES.refused("2 OPEN, 3", x -> x.evict(House.OPEN_DATA, House.VERSIONS, 16), 2);
        EDGES.refused("2 STOPPED, 3", x -> x.evict(House.STOPPED_THREAD, House.VERSIONS, -1), 2);
        EDGES.refused("2, 3 taken", x -> x.evict(House.OPEN_THREAD, House.VERSIONS, House.SLOT), 2);
    }
}
