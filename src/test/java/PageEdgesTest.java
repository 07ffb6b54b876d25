import java.util.Arrays;

/** The boundary cases of Terms 1 (PAGES), of promises 1 to 3 and of 16 to 19, a sentence each. */
public final class PageEdgesTest {
    private static final int NONE = EnclaveMonitor.NONE;
    private static final int LEAST = Integer.MIN_VALUE;
    private static final int MOST = Integer.MAX_VALUE;
    private static final Edges EDGES = new Edges();

    private PageEdgesTest() {
    }

    public static void main(String[] args) {
        lastOf512Calls();
        noneIsMinusOne();
        numbersOfPages();
        wordsOfAPage();
        ownersAreOfThreadsAndData();
        freedThreadIsAllZero();
        freedDataIsAllZero();
        freedVersionsAreAllZero();
        freedEnclaveIsAllZero();
        letGoIsAllZero();
        refusedCreateTakesNoIdent();
        identsAreNotUsedAgain();
        threadsWords();
        slotsAreApart();
        doneAnswersZero();
        allTaken();

        newSizes();
        newIsAllFree();
        newBuffer();
        newKeyAndMark();
        pokeEdges();
        pokeThrows();
        bufferThrows();

        pageTypes();
        pageOwner();
        pageAddress();
        pageRights();
        pageIdent();
        pageState();
        pageOwns();
        pageSaved();
        pageOtherWhat();
        pageNotThere();
        measureWords();
        measureOfOthers();
        slotWhatIsIn();
        slotOfOthers();
        countPages();
        countTypes();
        countSealing();
        countRefusedTags();
        countRefusedVersions();
        countCreated();
        countOthers();
        askingChangesNothing();
        EDGES.end("PageEdgesTest");
    }

    private static void due(String call, long got, long want) {
        EDGES.due(call, got, want);
    }

    private static void lastOf512Calls() {
        EDGES.of("An object is used for at most 512 calls after it has been made");
        EnclaveMonitor x = new EnclaveMonitor(8, 1L);
        x.create(0);
        x.data(0, 1, 0, 7);
        x.finalise(0);
        x.versions(2);
        for (int k = 1; k <= 253; k++) {
            due("evict", x.evict(1, 2, 15), 0);
            due("reload", x.reload(1, 0, 2, 15), 0);
        }
        due("call 511", x.evict(1, 2, 0), 0);
        due("call 512", x.slot(2, 0), 254);
    }

    private static void noneIsMinusOne() {
        EDGES.of("NONE = -1: There is none");
        due("NONE", EnclaveMonitor.NONE, -1);
    }

    private static void numbersOfPages() {
        EDGES.of("PAGES have numbers 0 .. P - 1");
        for (int size : new int[] {8, 16, 40}) {
            EnclaveMonitor x = new EnclaveMonitor(size, 0L);
            due("page 0", x.page(0, 0), 0);
            due("page P - 1", x.page(size - 1, 0), 0);
            due("page -1", x.page(-1, 0), NONE);
            due("page P", x.page(size, 0), NONE);
            due("create -1", x.create(-1), 1);
            due("create P", x.create(size), 1);
            due("create 0", x.create(0), 0);
            due("versions P", x.versions(size), 1);
            due("versions P - 1", x.versions(size - 1), 0);
        }
    }

    private static void wordsOfAPage() {
        EDGES.of("32 words (ints) each");
        EnclaveMonitor x = new EnclaveMonitor(8, Bench.SEED);
        int[] words = new int[32];
        for (int k = 0; k < 64; k++) {
            x.poke(k, LEAST + 5 * k);
        }
        for (int k = 0; k < 32; k++) {
            words[k] = LEAST + 5 * k;
        }
        x.create(0);
        x.data(0, 1, 0, 0);
        x.finalise(0);
        x.versions(2);
        x.evict(1, 2, 0);
        int[] want = Bench.SEALS.blob(3, 0, 0, 1, 1L, words);
        for (int k = 0; k < 48; k++) {
            due("BLOB word " + k, x.buffer(k), want[k]);
        }
        due("the page's word 32 is none", x.buffer(48), LEAST + 5 * 48);
    }

    private static void ownersAreOfThreadsAndData() {
        EDGES.of("THREAD and DATA an OWNER (an ENCLAVE's page)");
        EnclaveMonitor x = House.make();
        int[] want = {NONE, 0, 0, 0, NONE, NONE, 5, 5, NONE, 8, 8, NONE, NONE, NONE};
        for (int p = 0; p < House.SIZE; p++) {
            due("OWNER of " + p, x.page(p, 1), want[p]);
        }
    }

    /** A THREAD that is put into the page shows its words by MEASURE, VERSIONS show them by SLOTS. */
    private static void dueAllZero(EnclaveMonitor x, int page, int enclave) {
        int[] free = {0, NONE, NONE, 0, 0, NONE, 0, 0};
        for (int k = 0; k < 8; k++) {
            due("FREE: " + State.page(page, k), x.page(page, k), free[k]);
            due("FREE: " + State.measure(page, k), x.measure(page, k), 0);
        }
        for (int k = 0; k < 16; k++) {
            due("FREE: " + State.slot(page, k), x.slot(page, k), 0);
        }
        due("as VERSIONS", x.versions(page), 0);
        for (int k = 0; k < 16; k++) {
            due("VERSIONS: " + State.slot(page, k), x.slot(page, k), 0);
        }
        due("removed", x.remove(page), 0);
        due("as an ENCLAVE", x.create(page), 0);
        for (int k = 0; k < 8; k++) {
            due("ENCLAVE: " + State.measure(page, k), x.measure(page, k), 0);
        }
        due("OPEN", x.page(page, 5), 0);
        due("stop", x.stop(page), 0);
        due("removed", x.remove(page), 0);
        due("create", x.create(enclave), 0);
        due("as a THREAD", x.thread(enclave, page, 77), 0);
        int[] thread = {2, enclave, NONE, 0, 0, NONE, 0, 0};
        for (int k = 0; k < 8; k++) {
            due("THREAD: " + State.page(page, k), x.page(page, k), thread[k]);
        }
        int[] measure = Seals.added(new int[8], 2, 77, 0, Code.page(77));
        for (int k = 0; k < 8; k++) {
            due("THREAD: " + State.measure(enclave, k), x.measure(enclave, k), measure[k]);
        }
    }

    private static EnclaveMonitor full() {
        EnclaveMonitor x = House.make();
        int[] ones = new int[32];
        Arrays.fill(ones, -1);
        Code.poke(x, ones);
        return x;
    }

    private static void freedThreadIsAllZero() {
        EDGES.of("FREE ones are all 0: a THREAD that was removed");
        EnclaveMonitor x = full();
        x.stop(House.FINAL);
        due("remove", x.remove(House.SAVED), 0);
        dueAllZero(x, House.SAVED, House.FREE);
    }

    private static void freedDataIsAllZero() {
        EDGES.of("FREE ones are all 0: a DATA page that was removed");
        EnclaveMonitor x = full();
        due("data", x.data(House.OPEN, House.LAST_FREE, 31, 7), 0);
        x.stop(House.OPEN);
        due("remove", x.remove(House.LAST_FREE), 0);
        dueAllZero(x, House.LAST_FREE, House.FREE);
    }

    private static void freedVersionsAreAllZero() {
        EDGES.of("FREE ones are all 0: a VERSIONS page that was removed");
        EnclaveMonitor x = full();
        due("a number in it", x.slot(House.VERSIONS, House.SLOT), 1);
        due("remove", x.remove(House.VERSIONS), 0);
        dueAllZero(x, House.VERSIONS, House.FREE);
    }

    private static void freedEnclaveIsAllZero() {
        EDGES.of("FREE ones are all 0: an ENCLAVE that was removed");
        EnclaveMonitor x = full();
        x.stop(House.BARE);
        due("remove", x.remove(House.BARE), 0);
        dueAllZero(x, House.BARE, House.FREE);
    }

    private static void letGoIsAllZero() {
        EDGES.of("FREE ones are all 0: pages that were let go");
        EnclaveMonitor x = full();
        due("evict a THREAD", x.evict(House.SAVED, House.VERSIONS, 0), 0);
        dueAllZero(x, House.SAVED, House.FREE);
        x = full();
        due("evict DATA", x.evict(House.CODE, House.VERSIONS, 0), 0);
        dueAllZero(x, House.CODE, House.FREE);
    }

    private static void refusedCreateTakesNoIdent() {
        EDGES.of("An ENCLAVE has an IDENT (1, 2, .. as they come)");
        EnclaveMonitor x = new EnclaveMonitor(8, 0L);
        due("create", x.create(7), 0);
        due("create again", x.create(7), 1);
        due("create -1", x.create(-1), 1);
        due("create", x.create(0), 0);
        due("first", x.page(7, 4), 1);
        due("second", x.page(0, 4), 2);
    }

    private static void identsAreNotUsedAgain() {
        EDGES.of("IDENT: 1, 2, .. go on when an ENCLAVE was removed");
        EnclaveMonitor x = new EnclaveMonitor(8, 0L);
        for (int k = 1; k <= 100; k++) {
            due("create", x.create(3), 0);
            due("IDENT", x.page(3, 4), k);
            due("stop", x.stop(3), 0);
            due("remove", x.remove(3), 0);
        }
    }

    private static void threadsWords() {
        EDGES.of("A THREAD page's words: 0 ENTRY, 1 SAVED, 2 PC, 3 .. 10 registers; the others are 0");
        Bench idle = Bench.open(1023).with(Bench.CODE, 0, 7).close();
        int[] words = idle.wordsOf(Bench.THREAD);
        for (int k = 0; k < 32; k++) {
            due("IDLE word " + k, words[k], k == 0 ? 1023 : 0);
        }
        int[] code = new int[9];
        for (int r = 0; r < 8; r++) {
            code[r] = Code.wide(Code.MOVE, r, 100 + r);
        }
        Bench saved = Bench.ready(code);
        due("enter", saved.x.enter(Bench.THREAD, -1, -1, 8), 2);
        words = saved.wordsOf(Bench.THREAD);
        int[] want = Code.page(0, 1, 8, 100, 101, 102, 103, 104, 105, 106, 107);
        for (int k = 0; k < 32; k++) {
            due("SAVED word " + k, words[k], want[k]);
        }
    }

    private static void slotsAreApart() {
        EDGES.of("A VERSIONS page has 16 SLOTS");
        EnclaveMonitor x = new EnclaveMonitor(24, 0L);
        x.create(0);
        for (int k = 0; k < 17; k++) {
            x.data(0, 1 + k, k, 7);
        }
        x.finalise(0);
        x.versions(23);
        x.versions(22);
        for (int k = 0; k < 16; k++) {
            due("evict into SLOT " + (15 - k), x.evict(1 + k, 23, 15 - k), 0);
        }
        for (int k = 0; k < 16; k++) {
            due("SLOT " + k, x.slot(23, k), 16 - k);
            due("all SLOTS are taken", x.evict(17, 23, k), 3);
            due("another VERSIONS page", x.slot(22, k), 0);
        }
        due("SLOT 16 is none", x.evict(17, 23, 16), 3);
        due("SLOT -1 is none", x.evict(17, 23, -1), 3);
        due("into the other page", x.evict(17, 22, 15), 0);
        due("its number", x.slot(22, 15), 17);
    }

    private static void doneAnswersZero() {
        EDGES.of("Calls that are done answer 0, if no other thing is told");
        EnclaveMonitor x = new EnclaveMonitor(8, 0L);
        due("create", x.create(1), 0);
        due("thread", x.thread(1, 2, 5), 0);
        due("data", x.data(1, 3, 5, 7), 0);
        due("versions", x.versions(4), 0);
        due("finalise", x.finalise(1), 0);
        due("evict", x.evict(3, 4, 5), 0);
        due("reload", x.reload(5, 1, 4, 5), 0);
        due("stop", x.stop(1), 0);
        due("remove", x.remove(5), 0);
    }

    private static void allTaken() {
        EDGES.of("A page is FREE or it is not: nothing there, and all taken");
        EnclaveMonitor x = new EnclaveMonitor(8, 0L);
        for (int p = 0; p < 8; p++) {
            due("remove a FREE one", x.remove(p), 1);
            due("evict a FREE one", x.evict(p, p, 0), 1);
        }
        due("create", x.create(0), 0);
        for (int p = 1; p < 8; p++) {
            due("data", x.data(0, p, p, 7), 0);
        }
        due("none is FREE", x.count(1), 0);
        for (int p = -1; p <= 8; p++) {
            due("create", x.create(p), 1);
            due("versions", x.versions(p), 1);
            due("thread", x.thread(0, p, 0), 1);
            due("data", x.data(0, p, 30, 7), 1);
        }
        x.stop(0);
        for (int p = 7; p >= 0; p--) {
            due("remove", x.remove(p), 0);
        }
        due("all are FREE", x.count(1), 8);
    }

    private static void newSizes() {
        EDGES.of("So many pages (8 .. 40; others: 16)");
        int[][] sizes = {{7, 16}, {8, 8}, {9, 9}, {39, 39}, {40, 40}, {41, 16}, {0, 16}, {-1, 16},
            {LEAST, 16}, {MOST, 16}, {16, 16}, {17, 17}, {15, 15}, {-8, 16}, {264, 16}};
        for (int[] size : sizes) {
            EnclaveMonitor x = new EnclaveMonitor(size[0], 9L);
            due("pages of " + size[0], x.count(0), size[1]);
            due("the last of " + size[0], x.create(size[1] - 1), 0);
            due("behind the last of " + size[0], x.create(size[1]), 1);
        }
    }

    private static void newIsAllFree() {
        EDGES.of("A new object: all FREE");
        EnclaveMonitor x = new EnclaveMonitor(40, 9L);
        int[] free = {0, NONE, NONE, 0, 0, NONE, 0, 0};
        for (int p = 0; p < 40; p++) {
            for (int k = 0; k < 8; k++) {
                due(State.page(p, k), x.page(p, k), free[k]);
            }
        }
        int[] counts = {40, 40, 0, 0, 0, 0, 0, 0, 0, 0, 0};
        for (int k = 0; k <= 10; k++) {
            due(State.count(k), x.count(k), counts[k]);
        }
    }

    private static void newBuffer() {
        EDGES.of("A new object: BUFFER 0");
        EnclaveMonitor x = new EnclaveMonitor(8, -1L);
        for (int k = 0; k < 64; k++) {
            due(State.buffer(k), x.buffer(k), 0);
        }
    }

    private static void newKeyAndMark() {
        EDGES.of("A new object: KEY and MARK by seed (upper half of seed, lower half)");
        long[] seeds = {0L, 1L, -1L, 1L << 31, 1L << 32, 0xFFFFFFFFL, -1L << 32, Long.MIN_VALUE,
            Long.MAX_VALUE, 0x8000000080000000L};
        for (long seed : seeds) {
            EnclaveMonitor x = new EnclaveMonitor(8, seed);
            x.create(0);
            x.data(0, 1, 0, 7);
            x.finalise(0);
            x.versions(2);
            x.evict(1, 2, 0);
            int[] want = new Seals(seed).blob(3, 0, 7, 1, 1L, new int[32]);
            for (int k = 0; k < 48; k++) {
                due("seed " + seed + ", " + State.buffer(k), x.buffer(k), want[k]);
            }
        }
    }

    private static Edges.Call poke(int k, int v) {
        return x -> {
            try {
                x.poke(k, v);
            } catch (IndexOutOfBoundsException e) {
                return e.getClass() == IndexOutOfBoundsException.class ? 1 : 2;
            }
            return 0;
        };
    }

    private static Edges.Call buffer(int k) {
        return x -> {
            try {
                x.buffer(k);
            } catch (IndexOutOfBoundsException e) {
                return e.getClass() == IndexOutOfBoundsException.class ? 1 : 2;
            }
            return 0;
        };
    }

    private static void pokeEdges() {
        EDGES.of("Word k of BUFFER becomes v");
        for (int k : new int[] {0, 1, 31, 32, 47, 48, 62, 63}) {
            for (int v : new int[] {LEAST, -1, 1, MOST}) {
                Changes want = new Changes().set(State.buffer(k), v);
                EDGES.changes("poke(" + k + ", " + v + ")", poke(k, v), 0, want);
            }
        }
    }

    private static void pokeThrows() {
        EDGES.of("poke: IndexOutOfBoundsException: k is not 0 .. 63");
        for (int k : new int[] {-1, 64, 65, LEAST, MOST}) {
            EDGES.refused("poke(" + k + ", 5) throws", poke(k, 5), 1);
        }
        EDGES.refused("poke(64, 0) throws", poke(64, 0), 1);
        due("poke(0, 5)", poke(0, 5).on(House.make()), 0);
        due("poke(63, 5)", poke(63, 5).on(House.make()), 0);
    }

    private static void bufferThrows() {
        EDGES.of("buffer: IndexOutOfBoundsException: k is not 0 .. 63");
        for (int k : new int[] {-1, 64, 65, LEAST, MOST}) {
            EDGES.refused("buffer(" + k + ") throws", buffer(k), 1);
        }
        EDGES.refused("buffer(0)", buffer(0), 0);
        EDGES.refused("buffer(63)", buffer(63), 0);
    }

    private static void duePages(int what, int... want) {
        EnclaveMonitor x = House.make();
        for (int p = 0; p < House.SIZE; p++) {
            due(State.page(p, what), x.page(p, what), want[p]);
        }
    }

    private static void pageTypes() {
        EDGES.of("page: 0 TYPE");
        duePages(0, 1, 2, 2, 3, 4, 1, 2, 3, 1, 2, 3, 0, 1, 0);
    }

    private static void pageOwner() {
        EDGES.of("page: 1 OWNER (NONE without)");
        EnclaveMonitor x = House.make();
        for (int p : new int[] {House.FINAL, House.VERSIONS, House.FREE, House.BARE}) {
            due(State.page(p, 1), x.page(p, 1), NONE);
        }
        due("OWNER 0", x.page(House.CODE, 1), 0);
    }

    private static void pageAddress() {
        EDGES.of("page: 2 ADDRESS (DATA; others NONE)");
        duePages(2, NONE, NONE, NONE, 0, NONE, NONE, NONE, 4, NONE, NONE, 5, NONE, NONE, NONE);
    }

    private static void pageRights() {
        EDGES.of("page: 3 RIGHTS (DATA; others 0)");
        duePages(3, 0, 0, 0, 7, 0, 0, 0, 3, 0, 0, 6, 0, 0, 0);
    }

    private static void pageIdent() {
        EDGES.of("page: 4 of an ENCLAVE its IDENT (others 0)");
        duePages(4, 1, 0, 0, 0, 0, 2, 0, 0, 3, 0, 0, 0, 4, 0);
    }

    private static void pageState() {
        EDGES.of("page: 5 its STATE (others NONE)");
        duePages(5, 1, NONE, NONE, NONE, NONE, 0, NONE, NONE, 2, NONE, NONE, NONE, 1, NONE);
    }

    private static void pageOwns() {
        EDGES.of("page: 6 how many pages it owns (others 0)");
        duePages(6, 3, 0, 0, 0, 0, 2, 0, 0, 2, 0, 0, 0, 0, 0);
        EnclaveMonitor x = new EnclaveMonitor(40, 0L);
        x.create(39);
        for (int p = 0; p < 32; p++) {
            x.data(39, p, p, 7);
            due("owns", x.page(39, 6), p + 1);
        }
        for (int p = 32; p < 39; p++) {
            x.thread(39, p, p);
        }
        due("owns all others", x.page(39, 6), 39);
    }

    private static void pageSaved() {
        EDGES.of("page: 7 of a THREAD whether it is SAVED (others 0)");
        duePages(7, 0, 0, 1, 0, 0, 0, 0, 0, 0, 0, 0, 0, 0, 0);
        EnclaveMonitor x = new EnclaveMonitor(8, 0L);
        x.create(0);
        x.poke(1, 1);
        x.data(0, 1, 0, 7);
        due("DATA whose word 1 is 1", x.page(1, 7), 0);
    }

    private static void pageOtherWhat() {
        EDGES.of("page: NONE for another what");
        EnclaveMonitor x = House.make();
        for (int p = 0; p < House.SIZE; p++) {
            for (int what : new int[] {-1, 8, LEAST, MOST}) {
                due(State.page(p, what), x.page(p, what), NONE);
            }
        }
    }

    private static void pageNotThere() {
        EDGES.of("page: NONE if there is no such page");
        EnclaveMonitor x = House.make();
        for (int p : House.NO_PAGES) {
            for (int what = -1; what <= 8; what++) {
                due(State.page(p, what), x.page(p, what), NONE);
            }
        }
    }

    private static void measureWords() {
        EDGES.of("measure: Word k (0 .. 7) of an enclave's MEASURE; k is another");
        EnclaveMonitor x = House.make();
        int[] want = Seals.finalised(new int[8]);
        for (int k = 0; k < 8; k++) {
            due(State.measure(House.BARE, k), x.measure(House.BARE, k), want[k]);
        }
        for (int k : new int[] {-1, 8, LEAST, MOST}) {
            due(State.measure(House.BARE, k), x.measure(House.BARE, k), 0);
        }
    }

    private static void measureOfOthers() {
        EDGES.of("measure: 0 for others, that are no enclave");
        EnclaveMonitor x = House.make();
        int[] others = {House.IDLE, House.SAVED, House.CODE, House.VERSIONS, House.FREE};
        for (int k = -1; k <= 8; k++) {
            for (int p : others) {
                due(State.measure(p, k), x.measure(p, k), 0);
            }
            for (int p : House.NO_PAGES) {
                due(State.measure(p, k), x.measure(p, k), 0);
            }
        }
    }

    private static void slotWhatIsIn() {
        EDGES.of("slot: What is in a SLOT");
        EnclaveMonitor x = House.make();
        for (int k = 0; k < 16; k++) {
            due(State.slot(House.VERSIONS, k), x.slot(House.VERSIONS, k), k == House.SLOT ? 1 : 0);
        }
        due("evict into the first", x.evict(House.IDLE, House.VERSIONS, 0), 0);
        due("evict into the last", x.evict(House.SAVED, House.VERSIONS, 15), 0);
        due("the first", x.slot(House.VERSIONS, 0), 2);
        due("the last", x.slot(House.VERSIONS, 15), 3);
    }

    private static void slotOfOthers() {
        EDGES.of("slot: 0 for others");
        EnclaveMonitor x = House.make();
        x.evict(House.IDLE, House.VERSIONS, 0);
        x.evict(House.SAVED, House.VERSIONS, 15);
        for (int k : new int[] {-1, 16, LEAST, MOST}) {
            due(State.slot(House.VERSIONS, k), x.slot(House.VERSIONS, k), 0);
        }
        for (int p : new int[] {House.FINAL, House.CODE, House.OPEN_THREAD, House.OPEN_DATA, House.FREE}) {
            for (int k = 0; k < 16; k++) {
                due(State.slot(p, k), x.slot(p, k), 0);
            }
        }
        for (int p : House.NO_PAGES) {
            due(State.slot(p, House.SLOT), x.slot(p, House.SLOT), 0);
        }
    }

    private static void countPages() {
        EDGES.of("count: 0 pages");
        due("House", House.make().count(0), House.SIZE);
        due("least", new EnclaveMonitor(8, 0L).count(0), 8);
        due("most", new EnclaveMonitor(40, 0L).count(0), 40);
        due("too many", new EnclaveMonitor(41, 0L).count(0), 16);
    }

    private static void countTypes() {
        EDGES.of("count: 1 .. 5 how many are of TYPE 0 .. 4");
        EnclaveMonitor x = House.make();
        int[] want = {2, 4, 4, 3, 1};
        for (int k = 0; k < 5; k++) {
            due(State.count(k + 1), x.count(k + 1), want[k]);
        }
    }

    private static void countSealing() {
        EDGES.of("count: 6 letting goes, 7 takings back");
        EnclaveMonitor x = House.make();
        due("letting goes", x.count(6), 1);
        due("takings back", x.count(7), 0);
        x.evict(House.CODE, House.VERSIONS, House.SLOT);
        x.evict(House.FREE, House.VERSIONS, 0);
        x.reload(House.FREE, House.BARE, House.VERSIONS, House.SLOT);
        due("refused evict is none", x.count(6), 1);
        due("refused reload is none", x.count(7), 0);
        x.reload(House.FREE, House.FINAL, House.VERSIONS, House.SLOT);
        due("letting goes", x.count(6), 1);
        due("takings back", x.count(7), 1);
    }

    private static void countRefusedTags() {
        EDGES.of("count: 8 refused calls of reload() by 4");
        EnclaveMonitor x = House.make();
        x.poke(40, x.buffer(40) + 1);
        for (int k = 1; k <= 3; k++) {
            due("reload", x.reload(House.FREE, House.FINAL, House.VERSIONS, House.SLOT), 4);
            due("by 4", x.count(8), k);
            due("by 5", x.count(9), 0);
        }
    }

    private static void countRefusedVersions() {
        EDGES.of("count: 9 refused calls of reload() by 5");
        EnclaveMonitor x = House.make();
        for (int k = 1; k <= 3; k++) {
            due("reload", x.reload(House.FREE, House.FINAL, House.VERSIONS, 15), 5);
            due("by 4", x.count(8), 0);
            due("by 5", x.count(9), k);
        }
    }

    private static void countCreated() {
        EDGES.of("count: 10 enclaves that were created");
        EnclaveMonitor x = House.make();
        due("created", x.count(10), 4);
        x.create(House.FINAL);
        x.create(-1);
        due("refused ones are none", x.count(10), 4);
        x.stop(House.BARE);
        x.remove(House.BARE);
        due("removed ones were created", x.count(10), 4);
        x.create(House.BARE);
        due("one more", x.count(10), 5);
    }

    private static void countOthers() {
        EDGES.of("count: NONE for others");
        EnclaveMonitor x = House.make();
        for (int what : new int[] {-1, 11, 12, LEAST, MOST}) {
            due(State.count(what), x.count(what), NONE);
        }
        due("0 is one", x.count(0), House.SIZE);
        due("10 is one", x.count(10), 4);
    }

    private static void askingChangesNothing() {
        EDGES.of("Nothing is promised beyond the answers and state changes: asking changes nothing");
        EDGES.refused("page", x -> x.page(House.CODE, 0), 3);
        EDGES.refused("measure", x -> x.measure(House.OPEN, 8), 0);
        EDGES.refused("slot", x -> x.slot(House.VERSIONS, House.SLOT), 1);
        EDGES.refused("count", x -> x.count(10), 4);
        EDGES.refused("told", x -> x.told(0), 2);
        EDGES.refused("buffer", x -> x.buffer(0), 3);
    }
}
