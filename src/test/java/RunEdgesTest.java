/** The boundary cases of promises 11 to 13, of RUNs and what is told of them, a sentence each. */
public final class RunEdgesTest {
    private static final int NONE = EnclaveMonitor.NONE;
    private static final int LEAST = Integer.MIN_VALUE;
    private static final int MOST = Integer.MAX_VALUE;
    private static final int[] NO_THREADS = {House.FINAL, House.CODE, House.VERSIONS, House.OPEN,
        House.OPEN_DATA, House.STOPPED, House.FREE, House.BARE};
    private static final int[] NO_STEPS = {-1, 5001, LEAST, MOST};
    private static final Edges EDGES = new Edges();

    private RunEdgesTest() {
    }

    public static void main(String[] args) {
        enterRuns();
        enterFromEntry();
        enterRegisters();
        enterKeepsOtherWords();
        enterNoThread();
        enterOwnerNotFinal();
        enterNotIdle();
        enterSteps();
        enterFirstThatHolds();

        resumeRuns();
        resumeFromWhereItIs();
        resumeNoThread();
        resumeOwnerNotFinal();
        resumeNotSaved();
        resumeSteps();
        resumeFirstThatHolds();

        toldHow();
        toldWith();
        toldPage();
        toldMade();
        toldOtherWhat();
        toldAheadOfAnyRun();
        toldOfTheLatest();
        toldStays();
        EDGES.end("RunEdgesTest");
    }

    private static void due(String call, long got, long want) {
        EDGES.due(call, got, want);
    }

    private static void dueTold(String call, EnclaveMonitor x, int how, int with, int page, int made) {
        EDGES.told(call, x, how, with, page, made);
    }

    private static void enterRuns() {
        EDGES.of("enter: A RUN of an IDLE THREAD");
        Changes end = new Changes().told(0, 11, NONE, 3);
        EDGES.changes("to END", x -> x.enter(House.IDLE, 5, 6, 5000), 0, end);
        EDGES.changes("with just enough steps", x -> x.enter(House.IDLE, 5, 6, 3), 0, end);
        for (int steps = 0; steps <= 2; steps++) {
            int many = steps;
            Changes want = new Changes().told(2, 0, NONE, steps).set(State.page(House.IDLE, 7), 1);
            EDGES.changes("steps " + steps, x -> x.enter(House.IDLE, 5, 6, many), 2, want);
        }
    }

    private static void enterFromEntry() {
        EDGES.of("enter: from its ENTRY");
        for (int entry : new int[] {0, 1, 2, 31}) {
            int[] code = new int[32];
            code[entry] = Code.wide(Code.MOVE, 4, 3);
            Bench bench = Bench.open(entry).with(Bench.CODE, 0, 4, code).close();
            due("enter", bench.x.enter(Bench.THREAD, 0, 0, 1), 2);
            int[] words = bench.wordsOf(Bench.THREAD);
            due("ENTRY stays", words[0], entry);
            due("PC", words[2], entry + 1);
            due("R4", words[7], 3);
        }
        Bench moved = Bench.ready(Code.end(0)).forgeThread(0, 0, 77);
        due("an IDLE one's PC is not looked at", moved.x.enter(Bench.THREAD, 9, 0, 1), 0);
    }

    private static void enterRegisters() {
        EDGES.of("enter: R0 being a, R1 b, others 0");
        int[][] cases = {{0, 0}, {LEAST, MOST}, {MOST, LEAST}, {-1, 1}};
        for (int[] c : cases) {
            Bench bench = Bench.ready().forgeThread(0, 0, 9, 9, 9, 9, 9, 9, 9, 9, 9);
            due("enter", bench.x.enter(Bench.THREAD, c[0], c[1], 0), 2);
            int[] words = bench.wordsOf(Bench.THREAD);
            int[] want = Code.page(0, 1, 0, c[0], c[1]);
            for (int k = 0; k < 32; k++) {
                due("word " + k, words[k], want[k]);
            }
        }
        Bench twice = Bench.ready(Code.wide(Code.MOVE, 5, 8), Code.end(5));
        due("once", twice.x.enter(Bench.THREAD, 1, 2, 5), 0);
        due("once more", twice.x.enter(Bench.THREAD, 3, 4, 0), 2);
        due("R5 is new", twice.wordsOf(Bench.THREAD)[8], 0);
    }

    private static void enterKeepsOtherWords() {
        EDGES.of("enter: R0 .. R7 are words 3 .. 10, and no other word is changed");
        int[] words = new int[32];
        for (int k = 11; k < 32; k++) {
            words[k] = LEAST + k;
        }
        Bench bench = Bench.ready().forgeThread(words);
        due("enter", bench.x.enter(Bench.THREAD, 0, 0, 0), 2);
        int[] is = bench.wordsOf(Bench.THREAD);
        for (int k = 11; k < 32; k++) {
            due("word " + k, is[k], words[k]);
        }
    }

    private static void enterNoThread() {
        EDGES.of("enter: Refused -1: page is no THREAD");
        for (int p : House.NO_PAGES) {
            EDGES.refused("enter " + p, x -> x.enter(p, 1, 2, 3), -1);
        }
        for (int p : NO_THREADS) {
            EDGES.refused("enter " + p, x -> x.enter(p, 1, 2, 3), -1);
        }
    }

    private static void enterOwnerNotFinal() {
        EDGES.of("enter: Refused -2: its OWNER is not FINAL");
        EDGES.refused("OPEN", x -> x.enter(House.OPEN_THREAD, 1, 2, 3), -2);
        EDGES.refused("STOPPED", x -> x.enter(House.STOPPED_THREAD, 1, 2, 3), -2);
        EDGES.refusedAfter(x -> x.stop(House.FINAL),
            "FINAL, then STOPPED", x -> x.enter(House.IDLE, 1, 2, 3), -2);
        EnclaveMonitor x = House.make();
        x.finalise(House.OPEN);
        due("OPEN, then FINAL", x.enter(House.OPEN_THREAD, 1, 2, 3), 1);
    }

    private static void enterNotIdle() {
        EDGES.of("enter: Refused -2: or it is not IDLE");
        EDGES.refused("SAVED", x -> x.enter(House.SAVED, 1, 2, 3), -2);
        EDGES.refusedAfter(x -> x.enter(House.IDLE, 1, 2, 0),
            "SAVED ahead of any step", x -> x.enter(House.IDLE, 1, 2, 3), -2);
        EnclaveMonitor x = House.make();
        x.resume(House.SAVED, 1);
        due("IDLE by END", x.enter(House.SAVED, 1, 2, 1), 2);
    }

    private static void enterSteps() {
        EDGES.of("enter: Refused -6: steps are not 0 .. 5000");
        for (int steps : NO_STEPS) {
            EDGES.refused("steps " + steps, x -> x.enter(House.IDLE, 1, 2, steps), -6);
        }
        due("steps 0", House.make().enter(House.IDLE, 1, 2, 0), 2);
        due("steps 5000", House.make().enter(House.IDLE, 1, 2, 5000), 0);
    }

    private static void enterFirstThatHolds() {
        EDGES.of("enter: the first that holds");
        EDGES.refused("1, 6", x -> x.enter(-1, 1, 2, -1), -1);
        EDGES.refused("1, 6", x -> x.enter(House.CODE, 1, 2, 5001), -1);
        EDGES.refused("1 of an OPEN enclave", x -> x.enter(House.OPEN_DATA, 1, 2, 5001), -1);
        EDGES.refused("2 OPEN, 6", x -> x.enter(House.OPEN_THREAD, 1, 2, 5001), -2);
        EDGES.refused("2 STOPPED, 6", x -> x.enter(House.STOPPED_THREAD, 1, 2, -1), -2);
        EDGES.refused("2 SAVED, 6", x -> x.enter(House.SAVED, 1, 2, -1), -2);
        EDGES.refusedAfter(x -> x.stop(House.FINAL),
            "2 by two, 6", x -> x.enter(House.SAVED, 1, 2, 5001), -2);
    }

    private static void resumeRuns() {
        EDGES.of("resume: A RUN of a SAVED THREAD");
        Changes end = new Changes().told(0, 0, NONE, 1).set(State.page(House.SAVED, 7), 0);
        EDGES.changes("to END", x -> x.resume(House.SAVED, 5000), 0, end);
        EDGES.changes("with just enough steps", x -> x.resume(House.SAVED, 1), 0, end);
        Changes none = new Changes().told(2, 0, NONE, 0);
        EDGES.changes("steps 0", x -> x.resume(House.SAVED, 0), 2, none);
    }

    private static void resumeFromWhereItIs() {
        EDGES.of("resume: from where it is");
        int[] code = new int[9];
        for (int r = 0; r < 8; r++) {
            code[r] = Code.wide(Code.MOVE, r, 60 + r);
        }
        for (int steps = 0; steps <= 8; steps++) {
            Bench bench = Bench.ready(code);
            due("enter", bench.x.enter(Bench.THREAD, -1, -2, steps), 2);
            due("resume", bench.x.resume(Bench.THREAD, 8 - steps), 2);
            int[] words = bench.wordsOf(Bench.THREAD);
            int[] want = Code.page(0, 1, 8, 60, 61, 62, 63, 64, 65, 66, 67);
            for (int k = 0; k < 32; k++) {
                due("split at " + steps + ", word " + k, words[k], want[k]);
            }
        }
    }

    private static void resumeNoThread() {
        EDGES.of("resume: Refused likewise -1: page is no THREAD");
        for (int p : House.NO_PAGES) {
            EDGES.refused("resume " + p, x -> x.resume(p, 3), -1);
        }
        for (int p : NO_THREADS) {
            EDGES.refused("resume " + p, x -> x.resume(p, 3), -1);
        }
    }

    private static void resumeOwnerNotFinal() {
        EDGES.of("resume: Refused likewise -2: its OWNER is not FINAL");
        EDGES.refusedAfter(x -> x.stop(House.FINAL),
            "SAVED, its OWNER STOPPED", x -> x.resume(House.SAVED, 3), -2);
        EDGES.refused("OPEN", x -> x.resume(House.OPEN_THREAD, 3), -2);
        EDGES.refused("STOPPED", x -> x.resume(House.STOPPED_THREAD, 3), -2);
    }

    private static void resumeNotSaved() {
        EDGES.of("resume: Refused (2: it is not SAVED)");
        EDGES.refused("IDLE", x -> x.resume(House.IDLE, 3), -2);
        EDGES.refusedAfter(x -> x.resume(House.SAVED, 1),
            "IDLE by END", x -> x.resume(House.SAVED, 1), -2);
        EDGES.refusedAfter(x -> x.enter(House.IDLE, 1, 2, 3),
            "IDLE by END of enter", x -> x.resume(House.IDLE, 1), -2);
    }

    private static void resumeSteps() {
        EDGES.of("resume: Refused likewise -6: steps are not 0 .. 5000");
        for (int steps : NO_STEPS) {
            EDGES.refused("steps " + steps, x -> x.resume(House.SAVED, steps), -6);
        }
        due("steps 0", House.make().resume(House.SAVED, 0), 2);
        due("steps 5000", House.make().resume(House.SAVED, 5000), 0);
    }

    private static void resumeFirstThatHolds() {
        EDGES.of("resume: the first that holds");
        EDGES.refused("1, 6", x -> x.resume(House.SIZE, 5001), -1);
        EDGES.refused("1, 6", x -> x.resume(House.VERSIONS, -1), -1);
        EDGES.refused("2 IDLE, 6", x -> x.resume(House.IDLE, -1), -2);
        EDGES.refused("2 OPEN, 6", x -> x.resume(House.OPEN_THREAD, 5001), -2);
        EDGES.refusedAfter(x -> x.stop(House.FINAL),
            "2 STOPPED, 6", x -> x.resume(House.SAVED, 5001), -2);
    }

    private static EnclaveMonitor ended(int... code) {
        EnclaveMonitor x = Bench.ready(code).x;
        x.enter(Bench.THREAD, 40, 2, 3);
        return x;
    }

    private static final int LOAD = Code.word(Code.LOAD, 2, 0, 0);
    private static final int SPIN = Code.wide(Code.JUMP, 0, 0);
    private static final int RUBBISH = 0x0A000000;

    private static void toldHow() {
        EDGES.of("told: 0 how it ended");
        due("END", ended(Code.end(0)).told(0), 0);
        due("FAULT", ended(LOAD).told(0), 1);
        due("no more steps", ended(SPIN).told(0), 2);
        due("ILLEGAL", ended(RUBBISH).told(0), 3);
    }

    private static void toldWith() {
        EDGES.of("told: 1 what it ended with (0 of others)");
        due("END", ended(Code.end(0)).told(1), 40);
        due("END with -1", ended(Code.wide(Code.MOVE, 7, -1), Code.end(7)).told(1), -1);
        due("FAULT", ended(LOAD).told(1), 0);
        due("no more steps", ended(SPIN).told(1), 0);
        due("ILLEGAL", ended(RUBBISH).told(1), 0);
    }

    private static void toldPage() {
        EDGES.of("told: 2 the ADDRESS of the page that faulted (NONE of others)");
        due("END", ended(Code.end(0)).told(2), NONE);
        due("FAULT", ended(LOAD).told(2), 1);
        due("FAULT at ADDRESS 0", endedWithoutRead().told(2), 0);
        due("FAULT at ADDRESS 31", ended(Code.wide(Code.MOVE, 0, 1023), LOAD).told(2), 31);
        due("FAULT outside", ended(Code.wide(Code.MOVE, 0, 1024), LOAD).told(2), NONE);
        due("no more steps", ended(SPIN).told(2), NONE);
        due("ILLEGAL", ended(RUBBISH).told(2), NONE);
    }

    private static EnclaveMonitor endedWithoutRead() {
        Bench bench = Bench.open(0).with(Bench.CODE, 0, 6, LOAD).close();
        bench.x.enter(Bench.THREAD, 31, 0, 9);
        return bench.x;
    }

    private static void toldMade() {
        EDGES.of("told: 3 steps that were made");
        due("END is made", ended(Code.end(0)).told(3), 1);
        due("FAULT is not", ended(LOAD).told(3), 0);
        due("FAULT behind one", ended(Code.wide(Code.MOVE, 0, -1), LOAD).told(3), 1);
        due("no more steps", ended(SPIN).told(3), 3);
        due("ILLEGAL is not", ended(RUBBISH).told(3), 0);
        due("ILLEGAL behind one", ended(Code.wide(Code.MOVE, 0, 0), RUBBISH).told(3), 1);
    }

    private static void toldOtherWhat() {
        EDGES.of("told: NONE for another what");
        EnclaveMonitor x = ended(Code.end(0));
        for (int what : new int[] {-1, 4, 5, LEAST, MOST}) {
            due(State.told(what), x.told(what), NONE);
        }
    }

    private static void toldAheadOfAnyRun() {
        EDGES.of("told: ahead of any RUN NONE");
        EnclaveMonitor x = Bench.ready(Code.end(0)).x;
        due("refused by 6", x.enter(Bench.THREAD, 0, 0, 5001), -6);
        due("refused by 2", x.resume(Bench.THREAD, 1), -2);
        due("refused by 1", x.enter(Bench.CODE, 0, 0, 1), -1);
        for (int what = -1; what <= 4; what++) {
            due(State.told(what), x.told(what), NONE);
        }
        due("a RUN of no step", x.enter(Bench.THREAD, 0, 0, 0), 2);
        dueTold("a RUN of no step", x, 2, 0, NONE, 0);
    }

    private static void toldOfTheLatest() {
        EDGES.of("told: Of the latest RUN");
        EnclaveMonitor x = Bench.ready(Code.wide(Code.JUMP, 1, 2), Code.end(0), LOAD).x;
        due("END", x.enter(Bench.THREAD, 40, 0, 9), 0);
        dueTold("END", x, 0, 40, NONE, 2);
        due("FAULT", x.enter(Bench.THREAD, 40, 1, 9), 1);
        dueTold("FAULT", x, 1, 0, 1, 1);
        due("no step", x.resume(Bench.THREAD, 0), 2);
        dueTold("no step", x, 2, 0, NONE, 0);
        due("refused", x.resume(Bench.THREAD, -1), -6);
        dueTold("refused ones are none", x, 2, 0, NONE, 0);
        EnclaveMonitor house = House.make();
        due("of another THREAD", house.enter(House.IDLE, 1, 1, 9), 0);
        dueTold("of another THREAD", house, 0, 2, NONE, 3);
    }

    private static void toldStays() {
        EDGES.of("told: Of the latest RUN, whatever became of its THREAD");
        EnclaveMonitor x = House.make();
        due("END", x.enter(House.IDLE, 1, 1, 9), 0);
        x.evict(House.IDLE, House.VERSIONS, 0);
        dueTold("let go", x, 0, 2, NONE, 3);
        x.stop(House.FINAL);
        x.remove(House.SAVED);
        x.remove(House.CODE);
        due("removed", x.remove(House.FINAL), 0);
        dueTold("removed", x, 0, 2, NONE, 3);
    }
}
