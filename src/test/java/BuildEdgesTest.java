/** The boundary cases of promises 4 to 10, of calls that build enclaves and end them, a sentence each. */
public final class BuildEdgesTest {
    private static final int LEAST = Integer.MIN_VALUE;
    private static final int MOST = Integer.MAX_VALUE;
    private static final int[] NOT_FREE = {House.FINAL, House.IDLE, House.SAVED, House.CODE,
        House.VERSIONS, House.OPEN, House.OPEN_THREAD, House.STOPPED, House.STOPPED_DATA};
    private static final int[] NO_ENCLAVES = {House.IDLE, House.CODE, House.VERSIONS, House.FREE,
        House.OPEN_THREAD, House.OPEN_DATA};
    private static final Edges EDGES = new Edges();

    private BuildEdgesTest() {
    }

    public static void main(String[] args) {
        createMakesAnEnclave();
        createNotThere();
        createNotFree();

        threadIsAdded();
        threadOfNoEnclave();
        threadInNoFreePage();
        threadNotOpen();
        threadEntries();
        threadFirstThatHolds();

        dataIsAdded();
        dataOfNoEnclave();
        dataInNoFreePage();
        dataNotOpen();
        dataAddresses();
        dataRights();
        dataAddressTaken();
        dataAddressTakenByFirstAndLast();
        dataAllAddressesTaken();
        dataFirstThatHolds();

        versionsIsMade();
        versionsNotThere();
        versionsNotFree();

        finaliseMakesFinal();
        finaliseNoEnclave();
        finaliseNotOpen();

        stopMakesStopped();
        stopNoEnclave();
        stopStopped();

        removeMakesFree();
        removeNotThere();
        removeFree();
        removeOwnerNotStopped();
        removeWithoutOwner();
        removeEnclaveNotStopped();
        removeOwnerOfAPage();
        EDGES.end("BuildEdgesTest");
    }

    private static Changes counted(Changes changes, int type, int many, int free) {
        return changes.set(State.count(1), free).set(State.count(type + 1), many);
    }

    private static int[] measureOf(EnclaveMonitor x, int enclave) {
        int[] words = new int[8];
        for (int k = 0; k < 8; k++) {
            words[k] = x.measure(enclave, k);
        }
        return words;
    }

    private static int[] openMeasure() {
        return measureOf(House.make(), House.OPEN);
    }

    private static void createMakesAnEnclave() {
        EDGES.of("create: A page becomes an ENCLAVE, OPEN");
        for (int p : new int[] {House.FREE, House.LAST_FREE}) {
            Changes want = new Changes().page(p, 1, -1, -1, 0, 5, 0, 0, 0).set(State.count(10), 5);
            EDGES.changes("create " + p, x -> x.create(p), 0, counted(want, 1, 5, 1));
        }
    }

    private static void createNotThere() {
        EDGES.of("create: 1: a page that is not there");
        for (int p : House.NO_PAGES) {
            EDGES.refused("create " + p, x -> x.create(p), 1);
        }
    }

    private static void createNotFree() {
        EDGES.of("create: 1: it is not FREE");
        for (int p : NOT_FREE) {
            EDGES.refused("create " + p, x -> x.create(p), 1);
        }
    }

    private static void threadIsAdded() {
        EDGES.of("thread: A page becomes a THREAD of an enclave, IDLE, with this ENTRY");
        for (int entry : new int[] {0, 1023}) {
            int p = House.LAST_FREE;
            Changes want = new Changes().page(p, 2, House.OPEN, -1, 0, 0, -1, 0, 0)
                .set(State.page(House.OPEN, 6), 3)
                .measure(House.OPEN, Seals.added(openMeasure(), 2, entry, 0, Code.page(entry)));
            EDGES.changes("entry " + entry, x -> x.thread(House.OPEN, p, entry), 0, counted(want, 2, 5, 1));
        }
    }

    private static void threadOfNoEnclave() {
        EDGES.of("thread: 1: enclave is none");
        for (int e : House.NO_PAGES) {
            EDGES.refused("of " + e, x -> x.thread(e, House.FREE, 0), 1);
        }
        for (int e : NO_ENCLAVES) {
            EDGES.refused("of " + e, x -> x.thread(e, House.FREE, 0), 1);
        }
        EDGES.refused("both are one FREE page", x -> x.thread(House.FREE, House.FREE, 0), 1);
    }

    private static void threadInNoFreePage() {
        EDGES.of("thread: 1: page is not FREE");
        for (int p : House.NO_PAGES) {
            EDGES.refused("in " + p, x -> x.thread(House.OPEN, p, 0), 1);
        }
        for (int p : NOT_FREE) {
            EDGES.refused("in " + p, x -> x.thread(House.OPEN, p, 0), 1);
        }
    }

    private static void threadNotOpen() {
        EDGES.of("thread: 2: it is not OPEN");
        for (int e : new int[] {House.FINAL, House.BARE, House.STOPPED}) {
            EDGES.refused("of " + e, x -> x.thread(e, House.FREE, 0), 2);
        }
    }

    private static void threadEntries() {
        EDGES.of("thread: 3: entry is not 0 .. 1023");
        for (int entry : new int[] {-1, 1024, LEAST, MOST}) {
            EDGES.refused("entry " + entry, x -> x.thread(House.OPEN, House.FREE, entry), 3);
        }
        EDGES.due("entry 0", House.make().thread(House.OPEN, House.FREE, 0), 0);
        EDGES.due("entry 1023", House.make().thread(House.OPEN, House.FREE, 1023), 0);
    }

    private static void threadFirstThatHolds() {
        EDGES.of("thread: the first that holds");
        EDGES.refused("1 enclave, 3", x -> x.thread(-1, House.FREE, -1), 1);
        EDGES.refused("1 page, 3", x -> x.thread(House.OPEN, House.CODE, 1024), 1);
        EDGES.refused("1 page, 2", x -> x.thread(House.FINAL, House.CODE, 0), 1);
        EDGES.refused("1 page, 2 STOPPED", x -> x.thread(House.STOPPED, House.SIZE, 0), 1);
        EDGES.refused("1, 2, 3", x -> x.thread(House.FINAL, House.FINAL, -1), 1);
        EDGES.refused("2, 3", x -> x.thread(House.FINAL, House.FREE, 1024), 2);
        EDGES.refused("2 STOPPED, 3", x -> x.thread(House.STOPPED, House.FREE, -1), 2);
    }

    private static void dataIsAdded() {
        EDGES.of("data: A page becomes DATA of an enclave, with BUFFER's words 0 .. 31");
        int[] words = new int[32];
        EnclaveMonitor house = House.make();
        for (int k = 0; k < 32; k++) {
            words[k] = house.buffer(k);
        }
        int[][] cases = {{0, 0}, {0, 7}, {31, 0}, {31, 7}, {3, 4}, {5, 1}};
        for (int[] c : cases) {
            int p = House.FREE;
            Changes want = new Changes().page(p, 3, House.OPEN, c[0], c[1], 0, -1, 0, 0)
                .set(State.page(House.OPEN, 6), 3)
                .measure(House.OPEN, Seals.added(openMeasure(), 3, c[0], c[1], words));
            String call = "address " + c[0] + ", rights " + c[1];
            EDGES.changes(call, x -> x.data(House.OPEN, p, c[0], c[1]), 0, counted(want, 3, 4, 1));
        }
    }

    private static void dataOfNoEnclave() {
        EDGES.of("data: 1: enclave is none");
        for (int e : House.NO_PAGES) {
            EDGES.refused("of " + e, x -> x.data(e, House.FREE, 0, 0), 1);
        }
        for (int e : NO_ENCLAVES) {
            EDGES.refused("of " + e, x -> x.data(e, House.FREE, 0, 0), 1);
        }
    }

    private static void dataInNoFreePage() {
        EDGES.of("data: 1: page is not FREE");
        for (int p : House.NO_PAGES) {
            EDGES.refused("in " + p, x -> x.data(House.OPEN, p, 0, 0), 1);
        }
        for (int p : NOT_FREE) {
            EDGES.refused("in " + p, x -> x.data(House.OPEN, p, 0, 0), 1);
        }
    }

    private static void dataNotOpen() {
        EDGES.of("data: 2: it is not OPEN");
        for (int e : new int[] {House.FINAL, House.BARE, House.STOPPED}) {
            EDGES.refused("of " + e, x -> x.data(e, House.FREE, 20, 7), 2);
        }
    }

    private static void dataAddresses() {
        EDGES.of("data: 3: address is not 0 .. 31");
        for (int address : new int[] {-1, 32, LEAST, MOST}) {
            EDGES.refused("address " + address, x -> x.data(House.OPEN, House.FREE, address, 7), 3);
        }
        EDGES.due("address 0", House.make().data(House.OPEN, House.FREE, 0, 7), 0);
        EDGES.due("address 31", House.make().data(House.OPEN, House.FREE, 31, 7), 0);
    }

    private static void dataRights() {
        EDGES.of("data: 3: rights not 0 .. 7");
        for (int rights : new int[] {-1, 8, LEAST, MOST}) {
            EDGES.refused("rights " + rights, x -> x.data(House.OPEN, House.FREE, 0, rights), 3);
        }
        EDGES.due("rights 0", House.make().data(House.OPEN, House.FREE, 0, 0), 0);
        EDGES.due("rights 7", House.make().data(House.OPEN, House.FREE, 0, 7), 0);
    }

    private static void dataAddressTaken() {
        EDGES.of("data: 3: or it has a DATA page with this ADDRESS");
        int taken = House.OPEN_ADDRESS;
        EDGES.refused("taken", x -> x.data(House.OPEN, House.FREE, taken, 7), 3);
        EDGES.refusedAfter(x -> x.data(House.OPEN, House.FREE, 0, 0),
            "ADDRESS 0 taken", x -> x.data(House.OPEN, House.LAST_FREE, 0, 0), 3);
        EDGES.refusedAfter(x -> x.data(House.OPEN, House.FREE, 31, 0),
            "ADDRESS 31 taken", x -> x.data(House.OPEN, House.LAST_FREE, 31, 0), 3);
        EDGES.due("one less", House.make().data(House.OPEN, House.FREE, taken - 1, 7), 0);
        EDGES.due("one more", House.make().data(House.OPEN, House.FREE, taken + 1, 7), 0);
        EnclaveMonitor x = House.make();
        EDGES.due("another enclave", x.create(House.FREE), 0);
        EDGES.due("has not that page", x.data(House.FREE, House.LAST_FREE, taken, 7), 0);
        EDGES.due("a THREAD has no ADDRESS: 1", House.make().data(House.OPEN, House.FREE, 1, 7), 0);
        EDGES.due("a THREAD has no ADDRESS: 0", House.make().data(House.OPEN, House.FREE, 0, 7), 0);
    }

    private static void dataAddressTakenByFirstAndLast() {
        EDGES.of("data: 3: it has a DATA page with this ADDRESS: page 0, or P - 1");
        for (int size : new int[] {8, 40}) {
            for (int page : new int[] {0, size - 1}) {
                EnclaveMonitor x = new EnclaveMonitor(size, 0L);
                x.create(3);
                EDGES.due("data in " + page, x.data(3, page, 6, 7), 0);
                EDGES.due("ADDRESS 6 again", x.data(3, 4, 6, 7), 3);
                EDGES.due("still FREE", x.page(4, 0), 0);
                EDGES.due("ADDRESS 7", x.data(3, 4, 7, 7), 0);
            }
        }
    }

    private static void dataAllAddressesTaken() {
        EDGES.of("data: 3: it has a DATA page with each ADDRESS");
        EnclaveMonitor x = new EnclaveMonitor(40, 0L);
        x.create(0);
        for (int k = 0; k < 32; k++) {
            EDGES.due("address " + k, x.data(0, 1 + k, k, 7), 0);
        }
        for (int k = 0; k < 32; k++) {
            EDGES.due("address " + k + " again", x.data(0, 39, k, 7), 3);
        }
        EDGES.due("owns", x.page(0, 6), 32);
        EDGES.due("a THREAD still", x.thread(0, 39, 0), 0);
    }

    private static void dataFirstThatHolds() {
        EDGES.of("data: the first that holds");
        EDGES.refused("1 enclave, 3", x -> x.data(House.SIZE, House.FREE, 32, 8), 1);
        EDGES.refused("1 page, 3", x -> x.data(House.OPEN, House.VERSIONS, -1, 0), 1);
        EDGES.refused("1 page, 3 taken", x -> x.data(House.OPEN, -1, House.OPEN_ADDRESS, 0), 1);
        EDGES.refused("1 page, 2", x -> x.data(House.FINAL, House.CODE, 20, 7), 1);
        EDGES.refused("1, 2, 3", x -> x.data(House.STOPPED, House.CODE, 32, 8), 1);
        EDGES.refused("2, 3 address", x -> x.data(House.FINAL, House.FREE, 32, 7), 2);
        EDGES.refused("2, 3 rights", x -> x.data(House.STOPPED, House.FREE, 1, 8), 2);
        EDGES.refused("2, 3 taken", x -> x.data(House.FINAL, House.FREE, 0, 7), 2);
        EDGES.refused("3 by two", x -> x.data(House.OPEN, House.FREE, 32, 8), 3);
        EDGES.refused("3 by two", x -> x.data(House.OPEN, House.FREE, House.OPEN_ADDRESS, -1), 3);
    }

    private static void versionsIsMade() {
        EDGES.of("versions: A page becomes VERSIONS");
        for (int p : new int[] {House.FREE, House.LAST_FREE}) {
            Changes want = new Changes().page(p, 4, -1, -1, 0, 0, -1, 0, 0);
            EDGES.changes("versions " + p, x -> x.versions(p), 0, counted(want, 4, 2, 1));
        }
    }

    private static void versionsNotThere() {
        EDGES.of("versions: 1: a page that is not there");
        for (int p : House.NO_PAGES) {
            EDGES.refused("versions " + p, x -> x.versions(p), 1);
        }
    }

    private static void versionsNotFree() {
        EDGES.of("versions: 1: it is not FREE");
        for (int p : NOT_FREE) {
            EDGES.refused("versions " + p, x -> x.versions(p), 1);
        }
    }

    private static void finaliseMakesFinal() {
        EDGES.of("finalise: An enclave is FINAL");
        Changes want = new Changes().set(State.page(House.OPEN, 5), 1)
            .measure(House.OPEN, Seals.finalised(openMeasure()));
        EDGES.changes("finalise", x -> x.finalise(House.OPEN), 0, want);
        Edges.Call empty = x -> x.create(House.FREE);
        Changes bare = new Changes().set(State.page(House.FREE, 5), 1)
            .measure(House.FREE, Seals.finalised(new int[8]));
        EDGES.changesAfter(empty, "finalise one without pages", x -> x.finalise(House.FREE), 0, bare);
    }

    private static void finaliseNoEnclave() {
        EDGES.of("finalise: 1: it is none");
        for (int e : House.NO_PAGES) {
            EDGES.refused("finalise " + e, x -> x.finalise(e), 1);
        }
        for (int e : NO_ENCLAVES) {
            EDGES.refused("finalise " + e, x -> x.finalise(e), 1);
        }
    }

    private static void finaliseNotOpen() {
        EDGES.of("finalise: 2: it is not OPEN");
        EDGES.refused("FINAL", x -> x.finalise(House.FINAL), 2);
        EDGES.refused("FINAL without pages", x -> x.finalise(House.BARE), 2);
        EDGES.refused("STOPPED", x -> x.finalise(House.STOPPED), 2);
    }

    private static void stopMakesStopped() {
        EDGES.of("stop: An enclave is STOPPED");
        for (int e : new int[] {House.OPEN, House.FINAL, House.BARE}) {
            Changes want = new Changes().set(State.page(e, 5), 2);
            EDGES.changes("stop " + e, x -> x.stop(e), 0, want);
        }
    }

    private static void stopNoEnclave() {
        EDGES.of("stop: 1: it is none");
        for (int e : House.NO_PAGES) {
            EDGES.refused("stop " + e, x -> x.stop(e), 1);
        }
        for (int e : NO_ENCLAVES) {
            EDGES.refused("stop " + e, x -> x.stop(e), 1);
        }
    }

    private static void stopStopped() {
        EDGES.of("stop: 2: it is STOPPED");
        EDGES.refused("STOPPED", x -> x.stop(House.STOPPED), 2);
        for (int e : new int[] {House.OPEN, House.FINAL}) {
            EDGES.refusedAfter(x -> x.stop(e), "stop " + e + " again", x -> x.stop(e), 2);
        }
    }

    private static void removeMakesFree() {
        EDGES.of("remove: A page becomes FREE");
        Changes thread = new Changes().free(House.STOPPED_THREAD).set(State.page(House.STOPPED, 6), 1);
        EDGES.changes("THREAD", x -> x.remove(House.STOPPED_THREAD), 0, counted(thread, 2, 3, 3));
        Changes data = new Changes().free(House.STOPPED_DATA).set(State.page(House.STOPPED, 6), 1);
        EDGES.changes("DATA", x -> x.remove(House.STOPPED_DATA), 0, counted(data, 3, 2, 3));
        Changes versions = new Changes().free(House.VERSIONS).set(State.slot(House.VERSIONS, House.SLOT), 0);
        EDGES.changes("VERSIONS", x -> x.remove(House.VERSIONS), 0, counted(versions, 4, 0, 3));
        Edges.Call stop = x -> x.stop(House.BARE);
        Changes bare = new Changes().free(House.BARE).measure(House.BARE, new int[8]);
        EDGES.changesAfter(stop, "ENCLAVE", x -> x.remove(House.BARE), 0, counted(bare, 1, 3, 3));
    }

    private static void removeNotThere() {
        EDGES.of("remove: 1: there is none such");
        for (int p : House.NO_PAGES) {
            EDGES.refused("remove " + p, x -> x.remove(p), 1);
        }
    }

    private static void removeFree() {
        EDGES.of("remove: 1: or it is FREE");
        for (int p : new int[] {House.FREE, House.LAST_FREE}) {
            EDGES.refused("remove " + p, x -> x.remove(p), 1);
        }
        EDGES.refusedAfter(x -> x.remove(House.STOPPED_DATA),
            "remove it again", x -> x.remove(House.STOPPED_DATA), 1);
    }

    private static void removeOwnerNotStopped() {
        EDGES.of("remove: 2: its OWNER is not STOPPED");
        int[] pages = {House.IDLE, House.SAVED, House.CODE, House.OPEN_THREAD, House.OPEN_DATA};
        for (int p : pages) {
            EDGES.refused("remove " + p, x -> x.remove(p), 2);
        }
    }

    private static long letMoreGo(EnclaveMonitor x) {
        return x.evict(House.IDLE, House.VERSIONS, 0) + x.evict(House.CODE, House.VERSIONS, 15);
    }

    private static void removeWithoutOwner() {
        EDGES.of("remove: 2: its OWNER is not STOPPED: a VERSIONS page has no OWNER");
        Changes gone = new Changes().free(House.VERSIONS);
        for (int k = 0; k < 16; k++) {
            gone.set(State.slot(House.VERSIONS, k), 0);
        }
        EDGES.changesAfter(BuildEdgesTest::letMoreGo, "with numbers of a FINAL enclave's pages",
            x -> x.remove(House.VERSIONS), 0, counted(gone, 4, 0, 5));
        EnclaveMonitor x = new EnclaveMonitor(8, 0L);
        x.versions(7);
        EDGES.due("no enclave is there", x.remove(7), 0);
        EDGES.due("it is FREE", x.remove(7), 1);
        x.create(0);
        x.versions(7);
        EDGES.due("page 0 is an OPEN enclave", x.remove(7), 0);
    }

    private static void removeEnclaveNotStopped() {
        EDGES.of("remove: 2: of an ENCLAVE: it is not STOPPED");
        EDGES.refused("FINAL without pages", x -> x.remove(House.BARE), 2);
        EDGES.refusedAfter(x -> x.create(House.FREE),
            "OPEN without pages", x -> x.remove(House.FREE), 2);
        EDGES.refused("FINAL", x -> x.remove(House.FINAL), 2);
        EDGES.refused("OPEN", x -> x.remove(House.OPEN), 2);
    }

    private static void removeOwnerOfAPage() {
        EDGES.of("remove: 2: of an ENCLAVE: or OWNER of a page");
        EDGES.refused("owner of two", x -> x.remove(House.STOPPED), 2);
        EDGES.refusedAfter(x -> x.remove(House.STOPPED_DATA),
            "owner of a THREAD", x -> x.remove(House.STOPPED), 2);
        EDGES.refusedAfter(x -> x.remove(House.STOPPED_THREAD),
            "owner of DATA", x -> x.remove(House.STOPPED), 2);
        EnclaveMonitor x = House.make();
        x.remove(House.STOPPED_DATA);
        x.remove(House.STOPPED_THREAD);
        EDGES.due("owner of none", x.remove(House.STOPPED), 0);
        EnclaveMonitor y = new EnclaveMonitor(40, 0L);
        y.create(0);
        y.thread(0, 39, 0);
        y.stop(0);
        EDGES.due("owner of the last page", y.remove(0), 2);
        EDGES.due("the last page", y.remove(39), 0);
        EDGES.due("owner of none", y.remove(0), 0);
    }
}
