/** The boundary cases of promise 15, a sentence each. */
public final class ReloadEdgesTest {
    private static final int LEAST = Integer.MIN_VALUE;
    private static final int MOST = Integer.MAX_VALUE;
    private static final Seals SEALS = new Seals(House.SEED);
    private static final Edges EDGES = new Edges();
    private static final Edges.Call RIGHT =
        x -> x.reload(House.FREE, House.FINAL, House.VERSIONS, House.SLOT);
    private static final Changes BY_TAG = new Changes().set(State.count(8), 1);
    private static final Changes BY_VERSION = new Changes().set(State.count(9), 1);
    private static final Edges.Call NOTHING = x -> 0;
    /** Makes the tag wrong. */
    private static final Edges.Call SPOIL = x -> {
        x.poke(47, x.buffer(47) ^ 1);
        return 0;
    };

    private ReloadEdgesTest() {
    }

    public static void main(String[] args) {
        takesBack();
        intoAnyFreePage();
        threadIfTwo();
        elseData();
        addressAndRights();
        wordsThatWereSealed();
        slotIsZero();
        pageNotFree();
        enclaveIsNone();
        versionsIsNone();
        notFinal();
        slots();
        tagOfOther();
        tagEachWord();
        tagWithAnotherKey();
        wordsBehindTheTag();
        identOfAnother();
        identForged();
        numberNotInTheSlot();
        numberOfAnOldOne();
        numberTwice();
        numberUpperHalf();
        numberIsZero();
        firstThatHolds();
        EDGES.end("ReloadEdgesTest");
    }

    private static void due(String call, long got, long want) {
        EDGES.due(call, got, want);
    }

    private static Edges.Call forged(int type, int address, int rights, int ident, long number, int... words) {
        return x -> {
            Code.poke(x, SEALS.blob(type, address, rights, ident, number, Code.page(words)));
            return 0;
        };
    }

    private static void refusedByTag(Edges.Call before, String call, Edges.Call made) {
        EDGES.refusedButFor(before, call, made, 4, BY_TAG);
    }

    private static void refusedByVersion(Edges.Call before, String call, Edges.Call made) {
        EDGES.refusedButFor(before, call, made, 5, BY_VERSION);
    }

    private static Changes taken(int page, int type) {
        return new Changes().set(State.page(House.FINAL, 6), 4)
            .set(State.slot(House.VERSIONS, House.SLOT), 0).set(State.count(7), 1)
            .set(State.count(1), 1).set(State.count(type + 1), type == 2 ? 5 : 4)
            .set(State.page(page, 0), type).set(State.page(page, 1), House.FINAL);
    }

    private static Changes takenData(int page, int address, int rights) {
        return taken(page, 3).set(State.page(page, 2), address).set(State.page(page, 3), rights);
    }

    private static void takesBack() {
        EDGES.of("reload: A page is taken back from the BLOB in BUFFER");
        EDGES.changes("reload", RIGHT, 0, takenData(House.FREE, House.GONE_ADDRESS, House.GONE_RIGHTS));
    }

    private static void intoAnyFreePage() {
        EDGES.of("reload: into any page that is FREE");
        int last = House.LAST_FREE;
        EDGES.changes("the last", x -> x.reload(last, House.FINAL, House.VERSIONS, House.SLOT), 0,
            takenData(last, House.GONE_ADDRESS, House.GONE_RIGHTS));
        EnclaveMonitor x = new EnclaveMonitor(8, 5L);
        x.create(1);
        x.data(1, 2, 0, 7);
        x.finalise(1);
        x.versions(3);
        x.evict(2, 3, 0);
        due("the first", x.reload(0, 1, 3, 0), 0);
        x.evict(0, 3, 15);
        due("P - 1", x.reload(7, 1, 3, 15), 0);
        due("DATA", x.page(7, 0), 3);
    }

    private static void threadIfTwo() {
        EDGES.of("reload: a THREAD if word 0 is 2");
        EDGES.changesAfter(forged(2, 0, 0, 1, 1L, 7), "IDLE", RIGHT, 0, taken(House.FREE, 2));
        Changes saved = taken(House.FREE, 2).set(State.page(House.FREE, 7), 1);
        EDGES.changesAfter(forged(2, 0, 0, 1, 1L, 7, 1), "SAVED", RIGHT, 0, saved);
        EDGES.changesAfter(forged(2, 3, 4, 1, 1L, 7), "a THREAD has no ADDRESS", RIGHT, 0, taken(House.FREE, 2));
    }

    private static void elseData() {
        EDGES.of("reload: else DATA");
        for (int type : new int[] {3, 0, 1, 4, 5, -1, -2, 258, LEAST, MOST, LEAST + 2}) {
            Changes want = takenData(House.FREE, 8, 6);
            EDGES.changesAfter(forged(type, 8, 6, 1, 1L, 7, 1), "word 0 is " + type, RIGHT, 0, want);
        }
    }

    private static void addressAndRights() {
        EDGES.of("reload: DATA with its ADDRESS and RIGHTS");
        int[][] cases = {{0, 0}, {31, 7}, {32, 8}, {-1, -1}, {LEAST, MOST}, {MOST, LEAST}, {-1, 0}};
        for (int[] c : cases) {
            Changes want = takenData(House.FREE, c[0], c[1]);
            EDGES.changesAfter(forged(3, c[0], c[1], 1, 1L), "ADDRESS " + c[0], RIGHT, 0, want);
        }
        EDGES.changesAfter(forged(3, 0, 7, 1, 1L), "an ADDRESS that is there", RIGHT, 0,
            takenData(House.FREE, 0, 7));
    }

    private static void wordsThatWereSealed() {
        EDGES.of("reload: with the words that were sealed");
        int[] words = new int[32];
        for (int k = 0; k < 32; k++) {
            words[k] = k % 2 == 0 ? LEAST + k : MOST - k;
        }
        for (int type : new int[] {2, 3}) {
            EnclaveMonitor x = House.make();
            forged(type, 0, 0, 1, 1L, words).on(x);
            due("reload", RIGHT.on(x), 0);
            due("evict", x.evict(House.FREE, House.VERSIONS, 0), 0);
            int[] stream = SEALS.stream(0, 2);
            for (int k = 0; k < 32; k++) {
                due("word " + k, x.buffer(8 + k) ^ stream[k], words[k]);
            }
        }
    }

    private static void slotIsZero() {
        EDGES.of("reload: the SLOT is 0");
        EnclaveMonitor x = House.make();
        x.evict(House.IDLE, House.VERSIONS, House.SLOT - 1);
        x.evict(House.SAVED, House.VERSIONS, House.SLOT + 1);
        due("reload", x.reload(House.FREE, House.FINAL, House.VERSIONS, House.SLOT + 1), 0);
        due("the SLOT", x.slot(House.VERSIONS, House.SLOT + 1), 0);
        due("another", x.slot(House.VERSIONS, House.SLOT), 1);
        due("another", x.slot(House.VERSIONS, House.SLOT - 1), 2);
        due("it can be used again", x.evict(House.FREE, House.VERSIONS, House.SLOT + 1), 0);
        due("with a new number", x.slot(House.VERSIONS, House.SLOT + 1), 4);
    }

    private static void pageNotFree() {
        EDGES.of("reload: 1: page is not FREE");
        int slot = House.SLOT;
        for (int p : House.NO_PAGES) {
            EDGES.refused("page " + p, x -> x.reload(p, House.FINAL, House.VERSIONS, slot), 1);
        }
        int[] others = {House.FINAL, House.IDLE, House.SAVED, House.CODE, House.VERSIONS, House.OPEN_DATA};
        for (int p : others) {
            EDGES.refused("page " + p, x -> x.reload(p, House.FINAL, House.VERSIONS, slot), 1);
        }
    }

    private static void enclaveIsNone() {
        EDGES.of("reload: 1: enclave is none");
        int slot = House.SLOT;
        for (int e : House.NO_PAGES) {
            EDGES.refused("enclave " + e, x -> x.reload(House.FREE, e, House.VERSIONS, slot), 1);
        }
        int[] others = {House.IDLE, House.CODE, House.VERSIONS, House.FREE, House.LAST_FREE};
        for (int e : others) {
            EDGES.refused("enclave " + e, x -> x.reload(House.FREE, e, House.VERSIONS, slot), 1);
        }
    }

    private static void versionsIsNone() {
        EDGES.of("reload: 1: versions no VERSIONS");
        int slot = House.SLOT;
        for (int v : House.NO_PAGES) {
            EDGES.refused("versions " + v, x -> x.reload(House.FREE, House.FINAL, v, slot), 1);
        }
        int[] others = {House.FINAL, House.IDLE, House.CODE, House.FREE, House.LAST_FREE};
        for (int v : others) {
            EDGES.refused("versions " + v, x -> x.reload(House.FREE, House.FINAL, v, slot), 1);
        }
    }

    private static void notFinal() {
        EDGES.of("reload: 2: it is not FINAL");
        int slot = House.SLOT;
        EDGES.refused("OPEN", x -> x.reload(House.FREE, House.OPEN, House.VERSIONS, slot), 2);
        EDGES.refused("STOPPED", x -> x.reload(House.FREE, House.STOPPED, House.VERSIONS, slot), 2);
        EDGES.refusedAfter(x -> x.stop(House.FINAL), "its own, STOPPED", RIGHT, 2);
        EDGES.refusedAfter(forged(3, 0, 7, 2, 1L), "IDENT of an OPEN one",
            x -> x.reload(House.FREE, House.OPEN, House.VERSIONS, slot), 2);
    }

    private static void slots() {
        EDGES.of("reload: 3: slot is not 0 .. 15");
        for (int slot : new int[] {-1, 16, LEAST, MOST, House.SLOT + 16, House.SLOT - 16}) {
            EDGES.refused("slot " + slot,
                x -> x.reload(House.FREE, House.FINAL, House.VERSIONS, slot), 3);
        }
        for (int slot : new int[] {0, 15}) {
            EnclaveMonitor x = House.make();
            due("evict", x.evict(House.CODE, House.VERSIONS, slot), 0);
            due("slot " + slot, x.reload(House.FREE, House.FINAL, House.VERSIONS, slot), 0);
        }
    }

    private static void tagOfOther() {
        EDGES.of("reload: 4: words 40 .. 47 are not the tag of 0 .. 39");
        refusedByTag(SPOIL, "the last word's lowest bit", RIGHT);
        refusedByTag(x -> {
            x.poke(40, x.buffer(40) ^ LEAST);
            return 0;
        }, "the first word's highest bit", RIGHT);
        refusedByTag(x -> {
            Code.poke(x, new int[48]);
            return 0;
        }, "all 0", RIGHT);
        refusedByTag(x -> {
            x.poke(6, 1);
            return 0;
        }, "word 6 is not 0", RIGHT);
    }

    private static void tagEachWord() {
        EDGES.of("reload: 4: each word of 0 .. 47 counts");
        for (int bit : new int[] {0, 15, 31}) {
            EnclaveMonitor x = House.make();
            for (int k = 0; k < 48; k++) {
                int word = x.buffer(k);
                x.poke(k, word ^ (1 << bit));
                due("word " + k + ", bit " + bit, RIGHT.on(x), 4);
                x.poke(k, word);
            }
            due("by 4", x.count(8), 48);
            due("by 5", x.count(9), 0);
            due("as it was", RIGHT.on(x), 0);
        }
    }

    private static void tagWithAnotherKey() {
        EDGES.of("reload: 4: a tag with another MARK");
        for (long seed : new long[] {House.SEED + 1, House.SEED ^ (1L << 63), 0L}) {
            int[] blob = new Seals(seed).blob(3, 9, 5, 1, 1L, House.goneWords());
            refusedByTag(x -> {
                Code.poke(x, blob);
                return 0;
            }, "seed " + seed, RIGHT);
        }
    }

    private static void wordsBehindTheTag() {
        EDGES.of("A BLOB, BUFFER's words 0 .. 47: reload looks at no other");
        EDGES.changesAfter(x -> {
            for (int k = 48; k < 64; k++) {
                x.poke(k, -k);
            }
            return 0;
        }, "reload", RIGHT, 0, takenData(House.FREE, House.GONE_ADDRESS, House.GONE_RIGHTS));
        EDGES.changesAfter(x -> {
            Code.poke(x, tagged(new int[] {3, 9, 5, 1, 0, 1, -1, 77}));
            return 0;
        }, "words 6 and 7 may be any", RIGHT, 0, takenData(House.FREE, 9, 5));
    }

    private static int[] tagged(int[] head) {
        int[] blob = java.util.Arrays.copyOf(head, 48);
        System.arraycopy(SEALS.tag(blob), 0, blob, 40, 8);
        return blob;
    }

    private static void identOfAnother() {
        EDGES.of("reload: 5: IDENT is not the enclave's");
        refusedByVersion(NOTHING, "another enclave",
            x -> x.reload(House.FREE, House.BARE, House.VERSIONS, House.SLOT));
        EnclaveMonitor x = House.make();
        x.stop(House.FINAL);
        x.remove(House.IDLE);
        x.remove(House.SAVED);
        x.remove(House.CODE);
        due("its enclave is removed", x.remove(House.FINAL), 0);
        x.create(House.FINAL);
        x.finalise(House.FINAL);
        due("another one in that page", RIGHT.on(x), 5);
        due("by 5", x.count(9), 1);
    }

    private static void identForged() {
        EDGES.of("reload: 5: IDENT is not the enclave's, any int");
        for (int ident : new int[] {0, 2, 4, 5, -1, LEAST, MOST, LEAST + 1, 257}) {
            refusedByVersion(forged(3, 9, 5, ident, 1L), "IDENT " + ident, RIGHT);
        }
        EDGES.changesAfter(forged(3, 9, 5, 4, 1L), "IDENT 4 of its enclave",
            x -> x.reload(House.FREE, House.BARE, House.VERSIONS, House.SLOT), 0,
            takenData(House.FREE, 9, 5).set(State.page(House.FREE, 1), House.BARE)
                .set(State.page(House.FINAL, 6), 3).set(State.page(House.BARE, 6), 1));
    }

    private static void numberNotInTheSlot() {
        EDGES.of("reload: 5: or the number is not that in the SLOT");
        for (int slot : new int[] {0, House.SLOT - 1, House.SLOT + 1, 15}) {
            refusedByVersion(NOTHING, "empty SLOT " + slot,
                x -> x.reload(House.FREE, House.FINAL, House.VERSIONS, slot));
        }
        refusedByVersion(x -> x.versions(House.LAST_FREE), "another VERSIONS page",
            x -> x.reload(House.FREE, House.FINAL, House.LAST_FREE, House.SLOT));
        for (long number : new long[] {2L, 3L, -1L, Long.MIN_VALUE, Long.MAX_VALUE}) {
            refusedByVersion(forged(3, 9, 5, 1, number), "number " + number, RIGHT);
        }
    }

    private static void numberOfAnOldOne() {
        EDGES.of("reload: 5: the number is not that in the SLOT: a BLOB of an earlier letting go");
        EnclaveMonitor x = House.make();
        int[] old = new int[48];
        for (int k = 0; k < 48; k++) {
            old[k] = x.buffer(k);
        }
        due("reload", RIGHT.on(x), 0);
        due("evict", x.evict(House.FREE, House.VERSIONS, House.SLOT), 0);
        int[] young = new int[48];
        for (int k = 0; k < 48; k++) {
            young[k] = x.buffer(k);
        }
        Code.poke(x, old);
        due("the old one", RIGHT.on(x), 5);
        Code.poke(x, young);
        due("the young one", RIGHT.on(x), 0);
        due("by 5", x.count(9), 1);
    }

    private static void numberTwice() {
        EDGES.of("reload: 5: the number is not that in the SLOT: taken back twice");
        EnclaveMonitor x = House.make();
        due("once", RIGHT.on(x), 0);
        due("twice", x.reload(House.LAST_FREE, House.FINAL, House.VERSIONS, House.SLOT), 5);
        due("FREE still", x.page(House.LAST_FREE, 0), 0);
        due("by 5", x.count(9), 1);
        due("takings back", x.count(7), 1);
    }

    private static void numberUpperHalf() {
        EDGES.of("reload: 5: the number is not that in the SLOT: both halves count");
        long[] numbers = {(1L << 32) + 1, 1L << 32, (1L << 63) + 1, 0xFFFFFFFF00000001L, 0xFFFFFFFFL};
        for (long number : numbers) {
            refusedByVersion(forged(3, 9, 5, 1, number), "number " + number, RIGHT);
        }
    }

    private static void numberIsZero() {
        EDGES.of("reload: 5: or is 0");
        refusedByVersion(forged(3, 9, 5, 1, 0L), "number 0, SLOT 0",
            x -> x.reload(House.FREE, House.FINAL, House.VERSIONS, 0));
        refusedByVersion(forged(2, 0, 0, 1, 0L), "number 0, SLOT 15",
            x -> x.reload(House.FREE, House.FINAL, House.VERSIONS, 15));
        refusedByVersion(forged(3, 9, 5, 1, 0L), "number 0, a SLOT with 1", RIGHT);
    }

    private static void firstThatHolds() {
        EDGES.of("reload: the first that holds");
        int v = House.VERSIONS;
        int slot = House.SLOT;
        EDGES.refused("1 page, 2", x -> x.reload(House.CODE, House.OPEN, v, slot), 1);
        EDGES.refused("1 versions, 2", x -> x.reload(House.FREE, House.OPEN, House.CODE, slot), 1);
        EDGES.refused("1 page, 3", x -> x.reload(-1, House.FINAL, v, 16), 1);
        EDGES.refused("1 enclave, 3", x -> x.reload(House.FREE, -1, v, 16), 1);
        EDGES.refusedAfter(SPOIL, "1 page, 4", x -> x.reload(House.CODE, House.FINAL, v, slot), 1);
        EDGES.refusedAfter(SPOIL, "1 versions, 4", x -> x.reload(House.FREE, House.FINAL, -1, slot), 1);
        EDGES.refused("1 page, 5", x -> x.reload(House.CODE, House.FINAL, v, 0), 1);
        EDGES.refused("2, 3", x -> x.reload(House.FREE, House.OPEN, v, 16), 2);
        EDGES.refusedAfter(SPOIL, "2, 4", x -> x.reload(House.FREE, House.STOPPED, v, slot), 2);
        EDGES.refused("2, 5", x -> x.reload(House.FREE, House.OPEN, v, 0), 2);
        EDGES.refusedAfter(SPOIL, "3, 4", x -> x.reload(House.FREE, House.FINAL, v, -1), 3);
        EDGES.refused("3, 5", x -> x.reload(House.FREE, House.BARE, v, 16), 3);
        refusedByTag(SPOIL, "4, 5 SLOT", x -> x.reload(House.FREE, House.FINAL, v, 0));
        refusedByTag(SPOIL, "4, 5 IDENT", x -> x.reload(House.FREE, House.BARE, v, slot));
        EDGES.refusedAfter(SPOIL, "all of them", x -> x.reload(House.CODE, House.OPEN, v, 16), 1);
        refusedByVersion(NOTHING, "5 by two", x -> x.reload(House.FREE, House.BARE, v, 0));
    }
}
