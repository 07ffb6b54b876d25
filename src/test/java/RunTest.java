/** Promises 11 to 13: a THREAD's steps, how a RUN ends, and what is told of it. */
public final class RunTest {
    private static final int NONE = EnclaveMonitor.NONE;
    private static final int THREAD = 1;
    private static final Check CHECK = new Check();

    private RunTest() {
    }

    public static void main(String[] args) {
        registers();
        arithmetic();
        shifts();
        loadsAndStores();
        jumps();
        measureWords();
        illegalKinds();
        faultsOfPc();
        faultsOfRights();
        faultsOfAddresses();
        faultChangesNothing();
        stepsThatAreTold();
        endForgets();
        selfChange();
        refused();
        toldIsOfTheLatest();
        manySteps();
        CHECK.end("RunTest");
    }

    private static void due(String call, long got, long want) {
        CHECK.due(call, got, want);
    }

    private static void dueTold(String when, EnclaveMonitor x, int how, int with, int page, int made) {
        due(when + ": how", x.told(0), how);
        due(when + ": with", x.told(1), with);
        due(when + ": page", x.told(2), page);
        due(when + ": made", x.told(3), made);
    }

    /** Enclave 0, THREAD 1 with ENTRY 0, its code with all rights in page 2 at ADDRESS 0. */
    private static EnclaveMonitor open(int... code) {
        EnclaveMonitor x = new EnclaveMonitor(8, 3L);
        x.create(0);
        x.thread(0, THREAD, 0);
        Code.poke(x, Code.page(code));
        x.data(0, 2, 0, 7);
        return x;
    }

    private static EnclaveMonitor ready(int... code) {
        EnclaveMonitor x = open(code);
        x.finalise(0);
        return x;
    }

    private static void dueEnd(String what, int a, int b, int want, int... code) {
        EnclaveMonitor x = ready(code);
        due(what, x.enter(THREAD, a, b, 100), 0);
        due(what + " ends with", x.told(1), want);
    }

    private static void registers() {
        int[] want = {77, -5, 0, 0, 0, 0, 0, 0};
        for (int r = 0; r < 8; r++) {
            dueEnd("R" + r, 77, -5, want[r], Code.end(r));
            dueEnd("R" + r + " by the lowest 3 bits", 77, -5, want[r], Code.end(r + 8 * 31));
            dueEnd("R" + r + " moved", 1, 2, -3, Code.wide(Code.MOVE, r, -3), Code.end(r));
        }
        dueEnd("n most", 1, 2, 32767, Code.wide(Code.MOVE, 3, 32767), Code.end(3));
        dueEnd("n least", 1, 2, -32768, Code.wide(Code.MOVE, 3, 32768), Code.end(3));
        dueEnd("END's b and c are nothing", 1, 2, 2, Code.word(0, 1, 255, 255));
    }

    private static void arithmetic() {
        int most = Integer.MAX_VALUE;
        dueEnd("add", 7, 5, 12, Code.word(Code.ADD, 2, 0, 1), Code.end(2));
        dueEnd("add goes round", most, 1, Integer.MIN_VALUE, Code.word(Code.ADD, 2, 0, 1), Code.end(2));
        dueEnd("xor", 0x0FF0, 0x00FF, 0x0F0F, Code.word(Code.XOR, 2, 0, 1), Code.end(2));
        dueEnd("times", -7, 5, -35, Code.word(Code.TIMES, 2, 0, 1), Code.end(2));
        dueEnd("times goes round", most, most, 1, Code.word(Code.TIMES, 2, 0, 1), Code.end(2));
        dueEnd("onto itself", 7, 5, 14, Code.word(Code.ADD, 0, 0, 0), Code.end(0));
        dueEnd("lowest 3 bits", 7, 5, 12, Code.word(Code.ADD, 0xFA, 0xF8, 0xF9), Code.end(2));
    }

    private static void shifts() {
        dueEnd("shift 0", -1, 0, -1, Code.word(Code.SHIFT, 2, 0, 0), Code.end(2));
        dueEnd("shift 1", -1, 0, Integer.MAX_VALUE, Code.word(Code.SHIFT, 2, 0, 1), Code.end(2));
        dueEnd("shift 31", -1, 0, 1, Code.word(Code.SHIFT, 2, 0, 31), Code.end(2));
        dueEnd("shift 32", -9, 0, -9, Code.word(Code.SHIFT, 2, 0, 32), Code.end(2));
        dueEnd("shift 0xE4", 0x80, 0, 8, Code.word(Code.SHIFT, 2, 0, 0xE4), Code.end(2));
    }

    private static void loadsAndStores() {
        dueEnd("load", 3, 0, 4242, Code.word(Code.LOAD, 2, 0, 0), Code.end(2), 0, 4242);
        dueEnd("load with c", 0, 0, 4242, Code.word(Code.LOAD, 2, 0, 3), Code.end(2), 0, 4242);
        dueEnd("c has no sign", -252, 0, 4242, Code.word(Code.LOAD, 2, 0, 255), Code.end(2), 0, 4242);
        dueEnd("store and load", 20, 99, 99,
            Code.word(Code.STORE, 1, 0, 0), Code.word(Code.LOAD, 5, 0, 0), Code.end(5));
        EnclaveMonitor x = open(Code.word(Code.LOAD, 2, 0, 0), Code.end(2));
        Code.poke(x, new int[32]);
        x.poke(31, 31313);
        x.data(0, 3, 31, 1);
        x.finalise(0);
        due("the last word", x.enter(THREAD, 1023, 0, 9), 0);
        due("the last word", x.told(1), 31313);
    }

    private static void jumps() {
        dueEnd("taken", 1, 6, 6, Code.wide(Code.JUMP, 0, 2), Code.end(0), Code.end(1));
        dueEnd("not taken", 0, 6, 0, Code.wide(Code.JUMP, 0, 2), Code.end(0), Code.end(1));
        dueEnd("back", 3, -1, 0,
            Code.word(Code.ADD, 0, 0, 1), Code.wide(Code.JUMP, 0, -1), Code.end(0));
        EnclaveMonitor x = ready(Code.wide(Code.JUMP, 0, 0));
        due("to itself", x.enter(THREAD, 1, 0, 5000), 2);
        dueTold("to itself", x, 2, 0, NONE, 5000);
    }

    private static void measureWords() {
        for (int k = 0; k < 8; k++) {
            EnclaveMonitor x = ready(Code.word(Code.MEASURE, 4, 0, 0xF8 + k), Code.end(4));
            due("measure", x.enter(THREAD, 0, 0, 9), 0);
            due("measure word " + k, x.told(1), x.measure(0, k));
        }
    }

    private static void illegalKinds() {
        for (int kind = 10; kind < 256; kind++) {
            EnclaveMonitor x = ready(Code.wide(Code.MOVE, 0, 4), Code.word(kind, 0, 0, 0));
            due("kind " + kind, x.enter(THREAD, 0, 0, 9), 3);
            dueTold("kind " + kind, x, 3, 0, NONE, 1);
            due("SAVED", x.page(THREAD, 7), 1);
            due("again", x.resume(THREAD, 9), 3);
            dueTold("again", x, 3, 0, NONE, 0);
        }
    }

    private static void faultsOfPc() {
        EnclaveMonitor x = ready(Code.wide(Code.JUMP, 0, -1));
        due("PC -1", x.enter(THREAD, 1, 0, 9), 1);
        dueTold("PC -1", x, 1, 0, NONE, 1);
        x = ready(Code.wide(Code.JUMP, 0, 1024));
        due("PC 1024", x.enter(THREAD, 1, 0, 9), 1);
        dueTold("PC 1024", x, 1, 0, NONE, 1);
        x = ready(Code.wide(Code.JUMP, 0, 1023));
        due("PC 1023", x.enter(THREAD, 1, 0, 9), 1);
        dueTold("PC 1023", x, 1, 0, 31, 1);
        x = ready(Code.wide(Code.JUMP, 0, 32));
        due("page 1", x.enter(THREAD, 1, 0, 9), 1);
        dueTold("page 1", x, 1, 0, 1, 1);
        x = new EnclaveMonitor(8, 0L);
        x.create(0);
        x.thread(0, THREAD, 1023);
        x.poke(31, Code.wide(Code.MOVE, 0, 9));
        x.data(0, 2, 31, 4);
        x.finalise(0);
        due("behind the last word", x.enter(THREAD, 0, 0, 9), 1);
        dueTold("behind the last word", x, 1, 0, NONE, 1);
    }

    private static void faultsOfRights() {
        for (int rights = 0; rights < 8; rights++) {
            EnclaveMonitor x = open(Code.word(Code.LOAD, 2, 0, 0), Code.end(2));
            x.data(0, 3, 1, rights);
            x.finalise(0);
            boolean ok = (rights & 1) != 0;
            due("load, rights " + rights, x.enter(THREAD, 32, 0, 9), ok ? 0 : 1);
            due("load page", x.told(2), ok ? NONE : 1);
            x = open(Code.word(Code.STORE, 2, 0, 0), Code.end(2));
            x.data(0, 3, 1, rights);
            x.finalise(0);
            ok = (rights & 2) != 0;
            due("store, rights " + rights, x.enter(THREAD, 32, 0, 9), ok ? 0 : 1);
            due("store page", x.told(2), ok ? NONE : 1);
            x = new EnclaveMonitor(8, 3L);
            x.create(0);
            x.thread(0, THREAD, 64);
            x.data(0, 3, 2, rights);
            x.finalise(0);
            ok = (rights & 4) != 0;
            due("run, rights " + rights, x.enter(THREAD, 32, 0, 9), ok ? 0 : 1);
            due("run page", x.told(2), ok ? NONE : 2);
        }
    }

    private static void faultsOfAddresses() {
        int[][] cases = {{-1, 0, NONE}, {1024, 0, NONE}, {1023, 1, NONE}, {1023, 0, 31}, {-1, 33, 1},
            {769, 255, NONE}, {768, 255, 31}, {Integer.MAX_VALUE, 0, NONE}, {Integer.MIN_VALUE, 0, NONE},
            {Integer.MAX_VALUE, 255, NONE}, {40, 0, 1}};
        for (int kind = Code.LOAD; kind <= Code.STORE; kind++) {
            for (int[] c : cases) {
                EnclaveMonitor x = ready(Code.word(kind, 2, 0, c[1]), Code.end(2));
                due("address " + c[0] + " + " + c[1], x.enter(THREAD, c[0], 0, 9), 1);
                dueTold("address " + c[0] + " + " + c[1], x, 1, 0, c[2], 0);
            }
        }
    }

    private static void faultChangesNothing() {
        EnclaveMonitor x = open(
            Code.wide(Code.MOVE, 2, 11),
            Code.word(Code.LOAD, 2, 0, 0),
            Code.end(2));
        x.thread(0, 4, 0);
        x.finalise(0);
        x.versions(5);
        due("fault", x.enter(THREAD, 50, 8, 9), 1);
        x.evict(THREAD, 5, 0);
        int[] stream = new Seals(3L).stream(0, 1);
        int[] want = Code.page(0, 1, 1, 50, 8, 11);
        for (int k = 0; k < 32; k++) {
            due("saved word " + k, x.buffer(8 + k) ^ stream[k], want[k]);
        }
        due("another THREAD is not touched", x.page(4, 7), 0);
        due("another THREAD enters", x.enter(4, 2, 0, 9), 0);
        due("with", x.told(1), Code.end(2));
    }

    private static void stepsThatAreTold() {
        int[] code = {Code.wide(Code.MOVE, 0, 5), Code.wide(Code.MOVE, 1, 6), Code.end(1)};
        for (int steps = 0; steps < 3; steps++) {
            EnclaveMonitor x = ready(code);
            due("steps " + steps, x.enter(THREAD, 0, 0, steps), 2);
            dueTold("steps " + steps, x, 2, 0, NONE, steps);
            due("SAVED", x.page(THREAD, 7), 1);
            due("goes on", x.resume(THREAD, 3 - steps), 0);
            dueTold("goes on", x, 0, 6, NONE, 3 - steps);
            due("IDLE", x.page(THREAD, 7), 0);
        }
        EnclaveMonitor x = ready(code);
        due("just enough", x.enter(THREAD, 0, 0, 3), 0);
        dueTold("just enough", x, 0, 6, NONE, 3);
        x = ready(0xFF000000);
        due("no step to look at", x.enter(THREAD, 0, 0, 0), 2);
        due("nor here", x.resume(THREAD, 0), 2);
        due("but here", x.resume(THREAD, 1), 3);
        x = ready(Code.wide(Code.JUMP, 0, -5));
        due("the fault is not seen yet", x.enter(THREAD, 1, 0, 1), 2);
        due("now it is", x.resume(THREAD, 1), 1);
        due("none was made", x.told(3), 0);
    }

    private static void endForgets() {
        EnclaveMonitor x = ready(Code.wide(Code.MOVE, 7, 5), Code.end(7));
        x.versions(5);
        due("ends", x.enter(THREAD, 3, 4, 9), 0);
        x.evict(THREAD, 5, 0);
        int[] stream = new Seals(3L).stream(0, 1);
        for (int k = 0; k < 32; k++) {
            due("IDLE word " + k, x.buffer(8 + k) ^ stream[k], 0);
        }
        x.reload(THREAD, 0, 5, 0);
        due("enters anew", x.enter(THREAD, 0, 0, 1), 2);
        due("registers are new", x.resume(THREAD, 1), 0);
        due("with", x.told(1), 5);
    }

    private static void selfChange() {
        dueEnd("a step that was written", 1, Code.end(0), 1,
            Code.word(Code.STORE, 1, 0, 0), 0xFF000000);
        EnclaveMonitor x = ready(Code.word(Code.STORE, 0, 1, 0), Code.end(0));
        due("what is stored stays", x.enter(THREAD, 55, 20, 9), 0);
        x.versions(5);
        x.evict(2, 5, 0);
        due("word 20", x.buffer(28) ^ new Seals(3L).stream(0, 1)[20], 55);
        due("MEASURE stays", x.measure(0, 0), Seals.finalised(Seals.added(
            Seals.added(new int[8], 2, 0, 0, new int[32]), 3, 0, 7,
            Code.page(Code.word(Code.STORE, 0, 1, 0), Code.end(0))))[0]);
    }

    private static void refused() {
        EnclaveMonitor x = open(Code.wide(Code.MOVE, 0, 5), Code.end(0));
        for (int page : new int[] {-1, 0, 2, 3, 8, Integer.MIN_VALUE, Integer.MAX_VALUE}) {
            due("enter " + page, x.enter(page, 0, 0, 1), -1);
            due("resume " + page, x.resume(page, 1), -1);
            due("1 comes ahead of 6", x.enter(page, 0, 0, -1), -1);
            due("1 comes ahead of 6", x.resume(page, 5001), -1);
        }
        due("OPEN", x.enter(THREAD, 0, 0, 1), -2);
        due("2 comes ahead of 6", x.enter(THREAD, 0, 0, -1), -2);
        due("resume OPEN", x.resume(THREAD, 1), -2);
        x.finalise(0);
        due("resume an IDLE one", x.resume(THREAD, 1), -2);
        due("resume 2 ahead of 6", x.resume(THREAD, -1), -2);
        for (int steps : new int[] {-1, 5001, Integer.MIN_VALUE, Integer.MAX_VALUE}) {
            due("steps " + steps, x.enter(THREAD, 0, 0, steps), -6);
        }
        due("none was a RUN", x.told(0), NONE);
        due("none changed it", x.page(THREAD, 7), 0);
        due("enter", x.enter(THREAD, 0, 0, 1), 2);
        due("enter a SAVED one", x.enter(THREAD, 0, 0, 1), -2);
        for (int steps : new int[] {-1, 5001, Integer.MIN_VALUE, Integer.MAX_VALUE}) {
            due("resume steps " + steps, x.resume(THREAD, steps), -6);
        }
        x.stop(0);
        due("resume STOPPED", x.resume(THREAD, 1), -2);
        due("enter STOPPED", x.enter(THREAD, 0, 0, 1), -2);
        due("SAVED still", x.page(THREAD, 7), 1);
    }

    private static void toldIsOfTheLatest() {
        EnclaveMonitor x = ready(Code.word(Code.LOAD, 2, 0, 0), Code.end(0));
        x.enter(THREAD, 77, 0, 9);
        dueTold("fault", x, 1, 0, 2, 0);
        x.enter(THREAD, 0, 0, 9);
        dueTold("a refused one tells nothing", x, 1, 0, 2, 0);
        for (int what : new int[] {-1, 4, Integer.MIN_VALUE, Integer.MAX_VALUE}) {
            due("told " + what, x.told(what), NONE);
        }
        x.resume(THREAD, 0);
        dueTold("no page faults now", x, 2, 0, NONE, 0);
        x = ready(Code.end(0));
        x.enter(THREAD, 8, 0, 9);
        dueTold("end", x, 0, 8, NONE, 1);
        x.enter(THREAD, 8, 0, 0);
        dueTold("ends with nothing now", x, 2, 0, NONE, 0);
    }

    private static void manySteps() {
        EnclaveMonitor x = ready(Code.word(Code.ADD, 0, 0, 1), Code.wide(Code.JUMP, 1, -1));
        due("5000 steps", x.enter(THREAD, 0, 3, 5000), 2);
        dueTold("5000 steps", x, 2, 0, NONE, 5000);
        due("and again", x.resume(THREAD, 5000), 2);
        x.versions(5);
        x.evict(THREAD, 5, 0);
        due("R0", x.buffer(11) ^ new Seals(3L).stream(0, 1)[3], 15000);
    }
}
