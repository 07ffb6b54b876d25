import java.util.Arrays;

/** The boundary cases of Terms 3 (A THREAD'S STEPS), a sentence each. */
public final class StepEdgesTest {
    private static final int NONE = EnclaveMonitor.NONE;
    private static final int LEAST = Integer.MIN_VALUE;
    private static final int MOST = Integer.MAX_VALUE;
    private static final int END = 0;
    private static final int FAULT = 1;
    private static final int NO_MORE_STEPS = 2;
    private static final int ILLEGAL = 3;
    private static final int RUBBISH = 0xFF000000;
    private static final Edges EDGES = new Edges();

    private StepEdgesTest() {
    }

    public static void main(String[] args) {
        firstAndLastWordOfPc();
        firstAndLastWordToRead();
        firstAndLastWordToWrite();
        edgesOfAPage();
        kindIsTheHighestByte();
        lowestThreeBits();
        numberWithSign();
        endWithRa();
        moveNumber();
        addGoesRound();
        exclusiveOr();
        timesGoesRound();
        placeToRead();
        placeToWrite();
        readAndWriteOneWord();
        jumpTaken();
        jumpNotTaken();
        jumpOut();
        shiftRight();
        measureWord();
        pcIsOneMore();
        kindsThatAreIllegal();
        addressOutside();
        pageNotThere();
        pageNoMoreThere();
        firstAndLastPage();
        withoutTheRightToRun();
        withoutTheRightToRead();
        withoutTheRightToWrite();
        pagesOfAnotherEnclave();
        addressTakenBack();
        rightsTakenBack();
        leastOfSeveral();
        leastOfSeveralWithoutTheRight();
        leastOfSeveralToRunAndWrite();
        threadsWordsTakenBack();
        savedByAnyWord();
        entryTakenBack();
        pcTakenBack();
        pcGoesRound();
        faultChangesNothing();
        illegalChangesNothing();
        stepsAtMost();
        endMakesIdle();
        elseIsSaved();
        noMoreStepsIsAskedFirst();
        EDGES.end("StepEdgesTest");
    }

    private static void due(String call, long got, long want) {
        EDGES.due(call, got, want);
    }

    private static void dueTold(String call, EnclaveMonitor x, int how, int with, int page, int made) {
        EDGES.told(call, x, how, with, page, made);
    }

    private static void dueRun(String call, Bench bench, int a, int b, int... told) {
        due(call, bench.x.enter(Bench.THREAD, a, b, 100), told[0]);
        dueTold(call, bench.x, told[0], told[1], told[2], told[3]);
    }

    /** Steps with R0 = a and R1 = b that end with a number. */
    private static void dueEnd(String call, int a, int b, int want, int... code) {
        Bench bench = Bench.ready(code);
        due(call, bench.x.enter(Bench.THREAD, a, b, 100), END);
        due(call + ", with", bench.x.told(1), want);
    }

    private static void dueWords(String call, int[] got, int... want) {
        int[] due = Arrays.copyOf(want, 32);
        for (int k = 0; k < 32; k++) {
            due(call + ", word " + k, got[k], due[k]);
        }
    }

    private static int[] lastWord(int word) {
        int[] words = new int[32];
        words[31] = word;
        return words;
    }

    private static void firstAndLastWordOfPc() {
        EDGES.of("Addresses of words are 0 .. 1023: PC");
        dueRun("PC 0", Bench.open(0).with(Bench.CODE, 0, 4, Code.end(0)).close(), 8, 0, END, 8, NONE, 1);
        Bench last = Bench.open(1023).with(Bench.CODE, 31, 4, lastWord(Code.end(1))).close();
        dueRun("PC 1023", last, 8, 9, END, 9, NONE, 1);
        Bench behind = Bench.open(1023).with(Bench.CODE, 31, 4, lastWord(Code.wide(Code.MOVE, 0, 1))).close();
        dueRun("PC 1024", behind, 8, 9, FAULT, 0, NONE, 1);
        Bench ahead = Bench.ready(Code.wide(Code.JUMP, 0, -1));
        dueRun("PC -1", ahead, 8, 9, FAULT, 0, NONE, 1);
    }

    private static void firstAndLastWordToRead() {
        EDGES.of("Addresses of words are 0 .. 1023: a word to read");
        int load = Code.word(Code.LOAD, 2, 0, 0);
        int[][] cases = {{0, END, load, NONE, 2}, {1023, END, 44, NONE, 2}, {-1, FAULT, 0, NONE, 0},
            {1024, FAULT, 0, NONE, 0}, {LEAST, FAULT, 0, NONE, 0}, {MOST, FAULT, 0, NONE, 0}};
        for (int[] c : cases) {
            Bench bench = Bench.open(0).with(Bench.CODE, 0, 5, load, Code.end(2))
                .with(5, 31, 1, lastWord(44)).close();
            dueRun("read " + c[0], bench, c[0], 0, c[1], c[2], c[3], c[4]);
        }
    }

    private static void firstAndLastWordToWrite() {
        EDGES.of("Addresses of words are 0 .. 1023: a word to write");
        int store = Code.word(Code.STORE, 1, 0, 0);
        for (int address : new int[] {-1, 1024, LEAST, MOST}) {
            Bench bench = Bench.open(0).with(Bench.CODE, 0, 7, store, Code.end(1)).with(5, 31, 2).close();
            dueRun("write " + address, bench, address, 55, FAULT, 0, NONE, 0);
            dueWords("page 0", bench.wordsOf(Bench.CODE), store, Code.end(1));
            dueWords("page 31", bench.wordsOf(5));
        }
        Bench first = Bench.open(0).with(Bench.CODE, 0, 7, store, Code.end(1)).close();
        dueRun("write 0", first, 0, 55, END, 55, NONE, 2);
        dueWords("page 0", first.wordsOf(Bench.CODE), 55, Code.end(1));
        Bench last = Bench.open(0).with(Bench.CODE, 0, 7, store, Code.end(1)).with(5, 31, 2).close();
        dueRun("write 1023", last, 1023, 55, END, 55, NONE, 2);
        dueWords("page 31", last.wordsOf(5), lastWord(55));
    }

    private static void edgesOfAPage() {
        EDGES.of("it is the enclave's words 32 ADDRESS .. 32 ADDRESS + 31");
        int load = Code.word(Code.LOAD, 2, 0, 0);
        int[] words = new int[32];
        for (int k = 0; k < 32; k++) {
            words[k] = 500 + k;
        }
        for (int address : new int[] {1, 2, 15, 27}) {
            for (int at : new int[] {-1, 0, 1, 30, 31, 32}) {
                Bench bench = Bench.open(0).with(Bench.CODE, 0, 4, load, Code.end(2))
                    .with(5, address, 1, words).close();
                int place = 32 * address + at;
                boolean there = at >= 0 && at <= 31;
                int page = at < 0 ? address - 1 : address + 1;
                dueRun("read " + place, bench, place, 0, there ? END : FAULT, there ? 500 + at : 0,
                    there ? NONE : page, there ? 2 : 0);
            }
        }
    }

    private static void kindIsTheHighestByte() {
        EDGES.of("its bits 31 .. 24 are the kind, 23 .. 16 a, 15 .. 8 b, 7 .. 0 c");
        dueEnd("kind 2", 30, 12, 42, 0x02030001, 0x00030000);
        dueEnd("the other bits of END are nothing", 30, 12, 12, 0x0001FFFF);
        dueEnd("b and c have their places", 30, 12, 30, 0x08030000, 0x00030000);
        dueEnd("b and c have their places", 30, 12, 15, 0x08030001, 0x00030000);
        dueEnd("b and c have their places", 30, 12, 12, 0x08030100, 0x00030000);
    }

    private static void lowestThreeBits() {
        EDGES.of("of a, and b where they tell registers, the lowest 3 bits count; of c too");
        dueEnd("a of END", 7, 5, 5, Code.end(0xF9));
        dueEnd("a of 1", 7, 5, 9, Code.wide(Code.MOVE, 0xFA, 9), Code.end(2));
        dueEnd("all of 2", 7, 5, 12, Code.word(Code.ADD, 0xFA, 0xF8, 0xF9), Code.end(2));
        dueEnd("all of 3", 7, 5, 2, Code.word(Code.XOR, 0x0A, 0x08, 0x09), Code.end(2));
        dueEnd("all of 4", 7, 5, 35, Code.word(Code.TIMES, 0x82, 0x80, 0x81), Code.end(2));
        dueEnd("a and b of 5", 2, 0, 66, Code.word(Code.LOAD, 0x0F, 0xF8, 0), Code.end(7), 66);
        dueEnd("a and b of 6", 9, 5, 5,
            Code.word(Code.STORE, 0xF9, 0xF8, 0), Code.word(Code.LOAD, 2, 0, 0), Code.end(2));
        dueEnd("a of 7", 0, 1, 0, Code.wide(Code.JUMP, 0xF9, 2), RUBBISH, Code.end(0));
        dueEnd("a and b of 8", 12, 0, 3, Code.word(Code.SHIFT, 0xFE, 0xF8, 2), Code.end(6));
        dueEnd("register 7", 7, 5, 8, Code.wide(Code.MOVE, 7, 8), Code.end(0xFF));
        dueEnd("register 8 is register 0", 7, 5, 8, Code.wide(Code.MOVE, 8, 8), Code.end(0));
    }

    private static void numberWithSign() {
        EDGES.of("15 .. 0 with sign n");
        int[][] cases = {{0, 0}, {1, 1}, {0x7FFF, 32767}, {0x8000, -32768}, {0x8001, -32767}, {0xFFFF, -1}};
        for (int[] c : cases) {
            dueEnd("n " + c[0], 7, 7, c[1], Code.wide(Code.MOVE, 0, c[0]), Code.end(0));
        }
    }

    private static void endWithRa() {
        EDGES.of("0 END: it ends, with Ra");
        for (int a : new int[] {0, 1, -1, LEAST, MOST}) {
            dueRun("END with " + a, Bench.ready(Code.end(0)), a, 3, END, a, NONE, 1);
        }
        dueRun("a page of zeros ends with R0", Bench.ready(), 17, 3, END, 17, NONE, 1);
    }

    private static void moveNumber() {
        EDGES.of("1 Ra = n");
        for (int r = 0; r < 8; r++) {
            dueEnd("R" + r, 7, 7, -32768, Code.wide(Code.MOVE, r, -32768), Code.end(r));
        }
    }

    private static void addGoesRound() {
        EDGES.of("2 Ra = Rb + Rc (Numbers go round by 32 bits)");
        int[][] cases = {{MOST, 1, LEAST}, {LEAST, -1, MOST}, {LEAST, LEAST, 0}, {MOST, MOST, -2},
            {-1, 1, 0}, {0, 0, 0}};
        for (int[] c : cases) {
            dueEnd(c[0] + " + " + c[1], c[0], c[1], c[2], Code.word(Code.ADD, 2, 0, 1), Code.end(2));
        }
        dueEnd("onto Rb", 7, 5, 12, Code.word(Code.ADD, 0, 0, 1), Code.end(0));
        dueEnd("onto Rc", 7, 5, 12, Code.word(Code.ADD, 1, 0, 1), Code.end(1));
        dueEnd("all three one", LEAST, 5, 0, Code.word(Code.ADD, 0, 0, 0), Code.end(0));
    }

    private static void exclusiveOr() {
        EDGES.of("3 Ra = Rb ^ Rc");
        int[][] cases = {{-1, -1, 0}, {-1, 0, -1}, {LEAST, MOST, -1}, {0x0FF0, 0x00FF, 0x0F0F}};
        for (int[] c : cases) {
            dueEnd(c[0] + " ^ " + c[1], c[0], c[1], c[2], Code.word(Code.XOR, 2, 0, 1), Code.end(2));
        }
    }

    private static void timesGoesRound() {
        EDGES.of("4 Ra = Rb * Rc (Numbers go round by 32 bits)");
        int[][] cases = {{MOST, MOST, 1}, {LEAST, -1, LEAST}, {LEAST, 2, 0}, {65536, 65536, 0},
            {65535, 65537, -1}, {-7, 5, -35}, {LEAST, LEAST, 0}, {MOST, 2, -2}};
        for (int[] c : cases) {
            dueEnd(c[0] + " * " + c[1], c[0], c[1], c[2], Code.word(Code.TIMES, 2, 0, 1), Code.end(2));
        }
    }

    private static void placeToRead() {
        EDGES.of("5 Ra = the word at Rb + c (c 0 .. 255; needs read)");
        int[][] cases = {{3, 0}, {0, 3}, {-252, 255}, {-1, 4}, {-125, 128}};
        for (int[] c : cases) {
            dueEnd("read " + c[0] + " + " + c[1], c[0], 0, 4242,
                Code.word(Code.LOAD, 2, 0, c[1]), Code.end(2), RUBBISH, 4242);
        }
        int[][] faults = {{-4, 3, NONE}, {1023, 1, NONE}, {769, 255, NONE}, {768, 255, 31}, {MOST, 1, NONE},
            {MOST, 255, NONE}, {LEAST, 255, NONE}, {-256, 255, NONE}};
        for (int[] c : faults) {
            Bench bench = Bench.ready(Code.word(Code.LOAD, 2, 0, c[1]), Code.end(2));
            dueRun("read " + c[0] + " + " + c[1], bench, c[0], 0, FAULT, 0, c[2], 0);
        }
        dueEnd("into Rb itself", 2, 0, 4242, Code.word(Code.LOAD, 0, 0, 1), Code.end(0), RUBBISH, 4242);
    }

    private static void placeToWrite() {
        EDGES.of("6 that word = Ra (needs write)");
        int[][] cases = {{9, 0}, {0, 9}, {-246, 255}, {-1, 10}, {-119, 128}};
        for (int[] c : cases) {
            int store = Code.word(Code.STORE, 1, 0, c[1]);
            Bench bench = Bench.ready(store, Code.end(1));
            dueRun("write " + c[0] + " + " + c[1], bench, c[0], 321, END, 321, NONE, 2);
            dueWords("written", bench.wordsOf(Bench.CODE), store, Code.end(1), 0, 0, 0, 0, 0, 0, 0, 321);
        }
        int[][] faults = {{-4, 3, NONE}, {1023, 1, NONE}, {769, 255, NONE}, {768, 255, 31}, {MOST, 1, NONE},
            {MOST, 255, NONE}, {LEAST, 255, NONE}, {-256, 255, NONE}};
        for (int[] c : faults) {
            Bench bench = Bench.ready(Code.word(Code.STORE, 2, 0, c[1]), Code.end(2));
            dueRun("write " + c[0] + " + " + c[1], bench, c[0], 0, FAULT, 0, c[2], 0);
        }
    }

    private static void readAndWriteOneWord() {
        EDGES.of("A step takes the word at PC: as it was written by the step ahead of it");
        dueEnd("the next step is written", 1, Code.end(0), 1, Code.word(Code.STORE, 1, 0, 0), RUBBISH);
        Bench other = Bench.open(0).with(Bench.CODE, 0, 4, Code.word(Code.STORE, 1, 0, 0),
            Code.wide(Code.JUMP, 0, 31)).with(5, 1, 6, RUBBISH).close();
        dueRun("a step on another page is written", other, 32, Code.end(0), END, 32, NONE, 3);
    }

    private static void jumpTaken() {
        EDGES.of("7 if Ra is not 0, PC becomes PC + n");
        for (int a : new int[] {1, -1, LEAST, MOST}) {
            dueEnd("R0 is " + a, a, 6, 6, Code.wide(Code.JUMP, 0, 2), Code.end(0), Code.end(1));
        }
        Bench itself = Bench.ready(Code.wide(Code.JUMP, 0, 0));
        dueRun("to itself", itself, 1, 0, NO_MORE_STEPS, 0, NONE, 100);
        dueWords("PC stays", itself.wordsOf(Bench.THREAD), 0, 1, 0, 1);
        dueEnd("to the next", 1, 6, 1, Code.wide(Code.JUMP, 0, 1), Code.end(0), Code.end(1));
        Bench back = Bench.open(2).with(Bench.CODE, 0, 7, Code.end(1), RUBBISH,
            Code.wide(Code.JUMP, 0, -2)).close();
        dueRun("back", back, 1, 6, END, 6, NONE, 2);
        Bench far = Bench.open(0).with(Bench.CODE, 0, 7, Code.wide(Code.JUMP, 0, 1023))
            .with(5, 31, 4, lastWord(Code.wide(Code.JUMP, 0, -1023))).close();
        dueRun("from the first to the last and back", far, 1, 0, NO_MORE_STEPS, 0, NONE, 100);
    }

    private static void jumpNotTaken() {
        EDGES.of("All but END and a jump that is taken: PC is 1 more: a jump that is not taken");
        for (int n : new int[] {2, 0, -1, -32768, 32767}) {
            dueEnd("n is " + n, 0, 6, 0, Code.wide(Code.JUMP, 0, n), Code.end(0), Code.end(1));
        }
    }

    private static void jumpOut() {
        EDGES.of("A FAULT: an address (of PC, too) that is not 0 .. 1023: behind a jump");
        for (int n : new int[] {-1, -32768, 1024, 32767}) {
            Bench bench = Bench.ready(Code.wide(Code.JUMP, 0, n));
            dueRun("n is " + n, bench, 1, 0, FAULT, 0, NONE, 1);
            dueWords("PC is as it is", bench.wordsOf(Bench.THREAD), 0, 1, n, 1);
        }
    }

    private static void shiftRight() {
        EDGES.of("8 Ra = Rb shifted right by the lowest 5 bits of c, 0s coming in");
        int[][] cases = {{-1, 0, -1}, {-1, 1, MOST}, {-1, 31, 1}, {-9, 32, -9}, {-1, 33, MOST},
            {-1, 255, 1}, {0x80, 0xE4, 8}, {LEAST, 31, 1}, {MOST, 30, 1}, {LEAST, 4, 0x08000000}};
        for (int[] c : cases) {
            dueEnd(c[0] + " by " + c[1], c[0], 0, c[2], Code.word(Code.SHIFT, 2, 0, c[1]), Code.end(2));
        }
    }

    private static void measureWord() {
        EDGES.of("9 Ra = word c (lowest 3 bits) of MEASURE");
        for (int c : new int[] {0, 1, 2, 3, 4, 5, 6, 7, 8, 15, 248, 255}) {
            Bench bench = Bench.ready(Code.word(Code.MEASURE, 6, 0xFF, c), Code.end(6));
            due("enter", bench.x.enter(Bench.THREAD, 0, 0, 2), END);
            due("word " + c, bench.x.told(1), bench.x.measure(Bench.ENCLAVE, c & 7));
        }
    }

    private static void pcIsOneMore() {
        EDGES.of("All but END and a jump that is taken: PC is 1 more: every kind");
        for (int kind = 1; kind <= 9; kind++) {
            Bench bench = Bench.ready(Code.word(kind, 2, 0, 0), RUBBISH);
            due("kind " + kind, bench.x.enter(Bench.THREAD, 0, 0, 1), NO_MORE_STEPS);
            due("PC behind kind " + kind, bench.wordsOf(Bench.THREAD)[2], 1);
        }
    }

    private static void kindsThatAreIllegal() {
        EDGES.of("Others: ILLEGAL");
        for (int kind = 0; kind < 256; kind++) {
            Bench bench = Bench.ready(Code.word(kind, 2, 0, 0), Code.end(0));
            int how = bench.x.enter(Bench.THREAD, 0, 0, 2);
            due("kind " + kind, how, kind > 9 ? ILLEGAL : END);
            dueTold("kind " + kind, bench.x, how, 0, NONE, kind > 9 ? 0 : kind == 0 ? 1 : 2);
        }
    }

    private static void addressOutside() {
        EDGES.of("A FAULT: an address that is not 0 .. 1023 (its page is NONE then)");
        for (int kind : new int[] {Code.LOAD, Code.STORE}) {
            for (int address : new int[] {-1, 1024, -1024, 2047, LEAST, MOST, 0x10000, 0x80000400}) {
                Bench bench = Bench.ready(Code.word(kind, 2, 0, 0));
                dueRun("kind " + kind + " at " + address, bench, address, 0, FAULT, 0, NONE, 0);
            }
        }
    }

    private static void pageNotThere() {
        EDGES.of("A FAULT: or whose page is not there");
        for (int address : new int[] {1, 2, 16, 31}) {
            for (int at : new int[] {0, 31}) {
                int place = 32 * address + at;
                for (int kind : new int[] {Code.LOAD, Code.STORE}) {
                    Bench bench = Bench.ready(Code.word(kind, 2, 0, 0));
                    dueRun("kind " + kind + " at " + place, bench, place, 0, FAULT, 0, address, 0);
                }
                Bench jump = Bench.ready(Code.wide(Code.JUMP, 0, place));
                dueRun("PC at " + place, jump, 1, 0, FAULT, 0, address, 1);
            }
        }
        dueRun("ENTRY", Bench.open(5).close(), 1, 0, FAULT, 0, 0, 0);
    }

    private static void pageNoMoreThere() {
        EDGES.of("A FAULT: or whose page is not there: it was, until it was let go");
        for (int address : new int[] {0, 1, 31}) {
            Bench bench = Bench.open(32 * address).with(5, address, 7, Code.end(0)).close();
            dueRun("there", bench, 4, 0, END, 4, NONE, 1);
            bench.wordsOf(5);
            dueRun("not there", bench, 4, 0, FAULT, 0, address, 0);
        }
        Bench two = Bench.open(0).with(5, 0, 7, Code.end(0));
        two.x.create(4);
        two.x.thread(4, 6, 0);
        two.close().x.finalise(4);
        dueRun("there", two, 4, 0, END, 4, NONE, 1);
        due("not in the enclave that runs next", two.x.enter(6, 4, 0, 1), FAULT);
        dueTold("not in the enclave that runs next", two.x, FAULT, 0, 0, 0);
    }

    private static void firstAndLastPage() {
        EDGES.of("PAGES have numbers 0 .. P - 1: each may be an enclave's DATA or THREAD");
        for (int size : new int[] {8, 40}) {
            for (int last = 0; last < 2; last++) {
                EnclaveMonitor x = new EnclaveMonitor(size, 3L);
                int code = last * (size - 1);
                int thread = size - 1 - code;
                x.create(3);
                Code.poke(x, Code.word(Code.STORE, 1, 0, 0), Code.word(Code.LOAD, 2, 0, 0), Code.end(2));
                x.data(3, code, 0, 7);
                x.thread(3, thread, 0);
                x.finalise(3);
                due("DATA in " + code, x.enter(thread, 9, 77, 3), END);
                dueTold("DATA in " + code, x, END, 77, NONE, 3);
            }
        }
    }

    private static void withoutTheRightToRun() {
        EDGES.of("its page must be there, with the right to run");
        for (int rights = 0; rights < 8; rights++) {
            boolean may = rights >= 4;
            Bench bench = Bench.open(64).with(5, 2, rights, Code.end(0)).close();
            dueRun("rights " + rights, bench, 9, 0, may ? END : FAULT, may ? 9 : 0, may ? NONE : 2, may ? 1 : 0);
        }
    }

    private static void withoutTheRightToRead() {
        EDGES.of("A FAULT: or has not the right: to read");
        for (int rights = 0; rights < 8; rights++) {
            boolean may = (rights & 1) == 1;
            Bench bench = Bench.open(0).with(Bench.CODE, 0, 4, Code.word(Code.LOAD, 2, 0, 0), Code.end(2))
                .with(5, 1, rights, 606).close();
            dueRun("rights " + rights, bench, 32, 0, may ? END : FAULT, may ? 606 : 0, may ? NONE : 1,
                may ? 2 : 0);
        }
    }

    private static void withoutTheRightToWrite() {
        EDGES.of("A FAULT: or has not the right: to write");
        for (int rights = 0; rights < 8; rights++) {
            boolean may = (rights & 2) == 2;
            Bench bench = Bench.open(0).with(Bench.CODE, 0, 4, Code.word(Code.STORE, 1, 0, 0), Code.end(1))
                .with(5, 1, rights, 606).close();
            dueRun("rights " + rights, bench, 32, 707, may ? END : FAULT, may ? 707 : 0, may ? NONE : 1,
                may ? 2 : 0);
            dueWords("rights " + rights, bench.wordsOf(5), may ? 707 : 606);
        }
    }

    private static void pagesOfAnotherEnclave() {
        EDGES.of("of several DATA pages of an enclave: those of another are not meant");
        Bench bench = Bench.open(0).with(6, 0, 4, Code.word(Code.LOAD, 2, 0, 0), Code.end(2));
        EnclaveMonitor x = bench.x;
        x.create(4);
        Code.poke(x, Code.page(8, 8));
        x.data(4, 5, 0, 7);
        x.data(4, 7, 1, 7);
        bench.close();
        x.finalise(4);
        dueRun("another enclave's ADDRESS 1", bench, 32, 0, FAULT, 0, 1, 0);
        x.resume(Bench.THREAD, 1);
        dueTold("still", x, FAULT, 0, 1, 0);
        dueWords("its own code ran", bench.wordsOf(Bench.THREAD), 0, 1, 0, 32);
    }

    private static void addressTakenBack() {
        EDGES.of("A BLOB's ADDRESS is taken back as it is, any int");
        int[] code = {Code.word(Code.LOAD, 2, 0, 0), Code.end(2)};
        for (int address : new int[] {32, -1, LEAST, MOST, 33, -32, 0x08000001}) {
            Bench bench = Bench.ready(code).forge(5, 3, address, 7, 808);
            due("ADDRESS", bench.x.page(5, 2), address);
            dueRun("page 1 is not there", bench, 32, 0, FAULT, 0, 1, 0);
            Bench wrapped = Bench.ready(code).forge(5, 3, address, 7, 808);
            int place = 32 * address;
            boolean outside = place < 0 || place > 1023;
            due("reached by none", wrapped.x.enter(Bench.THREAD, place, 0, 1), place == 0 ? 2 : FAULT);
            due("its page", wrapped.x.told(2), outside || place == 0 ? NONE : place / 32);
        }
        for (int address : new int[] {1, 31}) {
            Bench bench = Bench.ready(code).forge(5, 3, address, 7, 808);
            due("ADDRESS", bench.x.page(5, 2), address);
            dueRun("page " + address, bench, 32 * address, 0, END, 808, NONE, 2);
        }
    }

    private static void rightsTakenBack() {
        EDGES.of("of RIGHTS the lowest three bits count");
        int[] all = {7, 8, 9, 10, 12, 15, -1, -8, -7, LEAST, MOST, 0x100, 0x101};
        int[] read = {Code.word(Code.LOAD, 2, 0, 0), Code.end(2)};
        int[] write = {Code.word(Code.STORE, 1, 0, 0), Code.end(1)};
        int[] run = {Code.wide(Code.JUMP, 0, 32)};
        for (int rights : all) {
            Bench bench = Bench.ready(read).forge(5, 3, 1, rights, Code.end(0));
            due("RIGHTS", bench.x.page(5, 3), rights);
            due("read " + rights, bench.x.enter(Bench.THREAD, 32, 0, 9), (rights & 1) != 0 ? END : FAULT);
            Bench writer = Bench.ready(write).forge(5, 3, 1, rights, Code.end(0));
            due("write " + rights, writer.x.enter(Bench.THREAD, 32, 0, 9), (rights & 2) != 0 ? END : FAULT);
            Bench runner = Bench.ready(run).forge(5, 3, 1, rights, Code.end(0));
            due("run " + rights, runner.x.enter(Bench.THREAD, 32, 0, 9), (rights & 4) != 0 ? END : FAULT);
        }
    }

    private static void leastOfSeveral() {
        EDGES.of("of several DATA pages of an enclave with one ADDRESS that with the least number is meant");
        int[] code = {Code.word(Code.LOAD, 2, 0, 0), Code.end(2)};
        Bench high = Bench.ready(code).forge(5, 3, 1, 7, 505).forge(9, 3, 1, 7, 909);
        dueRun("the later one has the higher number", high, 32, 0, END, 505, NONE, 2);
        Bench low = Bench.ready(code).forge(9, 3, 1, 7, 909).forge(5, 3, 1, 7, 505);
        dueRun("the later one has the lower number", low, 32, 0, END, 505, NONE, 2);
        low.wordsOf(5);
        dueRun("the lower one is let go", low, 32, 0, END, 909, NONE, 2);
        Bench three = Bench.ready(code).forge(9, 3, 1, 7, 909).forge(12, 3, 1, 7, 1212).forge(10, 3, 1, 7, 1010);
        dueRun("three", three, 32, 0, END, 909, NONE, 2);
    }

    private static void leastOfSeveralWithoutTheRight() {
        EDGES.of("that with the least number is meant, though another has the right");
        int[] code = {Code.word(Code.LOAD, 2, 0, 0), Code.end(2)};
        Bench without = Bench.ready(code).forge(9, 3, 1, 7, 909).forge(5, 3, 1, 6, 505);
        dueRun("the least has not the right", without, 32, 0, FAULT, 0, 1, 0);
        Bench with = Bench.ready(code).forge(9, 3, 1, 6, 909).forge(5, 3, 1, 1, 505);
        dueRun("the least alone has it", with, 32, 0, END, 505, NONE, 2);
    }

    private static void leastOfSeveralToRunAndWrite() {
        EDGES.of("that with the least number is meant: to run and to write");
        int jump = Code.wide(Code.JUMP, 0, 32);
        Bench run = Bench.ready(jump).forge(9, 3, 1, 7, RUBBISH).forge(5, 3, 1, 7, Code.end(0));
        dueRun("run", run, 1, 0, END, 1, NONE, 2);
        int[] store = {Code.word(Code.STORE, 1, 0, 0), Code.end(1)};
        Bench write = Bench.ready(store).forge(9, 3, 1, 7, 909).forge(5, 3, 1, 7, 505);
        dueRun("write", write, 32, 77, END, 77, NONE, 2);
        dueWords("the least is written", write.wordsOf(5), 77);
        dueWords("the other stays", write.wordsOf(9), 909);
    }

    private static int[] anyWords(int first) {
        int[] words = new int[32];
        for (int k = 0; k < 32; k++) {
            words[k] = first - 3 * k;
        }
        return words;
    }

    private static void threadsWordsTakenBack() {
        EDGES.of("a THREAD's words are taken back as they are, any ints");
        for (int first : new int[] {LEAST + 5, -1, MOST}) {
            int[] words = anyWords(first);
            dueWords("from " + first, Bench.ready().forgeThread(words).wordsOf(Bench.THREAD), words);
        }
        int[] words = anyWords(MOST);
        words[2] = 0;
        for (int r = 0; r < 8; r++) {
            Bench bench = Bench.ready(Code.end(r)).forgeThread(words);
            due("resume", bench.x.resume(Bench.THREAD, 1), END);
            due("R" + r, bench.x.told(1), words[3 + r]);
        }
    }

    private static void savedByAnyWord() {
        EDGES.of("a THREAD whose word 1 is not 0 is SAVED");
        for (int word : new int[] {1, 2, -1, LEAST, MOST, 256, 0x10000}) {
            Bench bench = Bench.ready(Code.end(0)).forgeThread(0, word, 0, 41);
            due("SAVED by " + word, bench.x.page(Bench.THREAD, 7), 1);
            due("enter", bench.x.enter(Bench.THREAD, 0, 0, 1), -2);
            due("resume", bench.x.resume(Bench.THREAD, 1), END);
            due("with R0", bench.x.told(1), 41);
            due("IDLE", bench.x.page(Bench.THREAD, 7), 0);
        }
        Bench idle = Bench.ready(Code.end(0)).forgeThread(0, 0, 0, 41);
        due("IDLE by 0", idle.x.page(Bench.THREAD, 7), 0);
        due("resume", idle.x.resume(Bench.THREAD, 1), -2);
        due("enter", idle.x.enter(Bench.THREAD, 5, 0, 1), END);
    }

    private static void entryTakenBack() {
        EDGES.of("a THREAD's words are taken back as they are: ENTRY");
        for (int entry : new int[] {-1, 1024, LEAST, MOST}) {
            Bench bench = Bench.ready(Code.end(0)).forgeThread(entry);
            dueRun("ENTRY " + entry, bench, 3, 4, FAULT, 0, NONE, 0);
            dueWords("ENTRY " + entry, bench.wordsOf(Bench.THREAD), entry, 1, entry, 3, 4);
        }
        Bench last = Bench.open(0).with(5, 31, 4, lastWord(Code.end(0))).close().forgeThread(1023);
        dueRun("ENTRY 1023", last, 3, 4, END, 3, NONE, 1);
    }

    private static void pcTakenBack() {
        EDGES.of("a THREAD's words are taken back as they are: PC");
        for (int pc : new int[] {-1, 1024, LEAST, MOST}) {
            Bench bench = Bench.ready(Code.end(0)).forgeThread(0, 1, pc, 6);
            due("resume", bench.x.resume(Bench.THREAD, 5), FAULT);
            dueTold("PC " + pc, bench.x, FAULT, 0, NONE, 0);
            dueWords("PC " + pc, bench.wordsOf(Bench.THREAD), 0, 1, pc, 6);
        }
        Bench last = Bench.open(0).with(5, 31, 4, lastWord(Code.end(0))).close().forgeThread(0, 1, 1023, 6);
        due("resume", last.x.resume(Bench.THREAD, 5), END);
        dueTold("PC 1023", last.x, END, 6, NONE, 1);
    }

    private static void pcGoesRound() {
        EDGES.of("Numbers go round by 32 bits: an address below 0 that c brings back to 0");
        dueEnd("-1 + 1 is word 0", -1, 0, Code.word(Code.LOAD, 2, 0, 1),
            Code.word(Code.LOAD, 2, 0, 1), Code.end(2));
        dueEnd("-255 + 255 is word 0", -255, 0, Code.word(Code.LOAD, 2, 0, 255),
            Code.word(Code.LOAD, 2, 0, 255), Code.end(2));
        Bench bench = Bench.ready(Code.word(Code.STORE, 1, 0, 255), Code.end(1));
        dueRun("the greatest + 255 goes round below 0", bench, MOST, 1, FAULT, 0, NONE, 0);
    }

    private static void faultChangesNothing() {
        EDGES.of("A step that faults changes nothing and is none that was made");
        int[] load = {Code.wide(Code.MOVE, 2, 11), Code.word(Code.LOAD, 2, 0, 0), Code.end(2)};
        Bench reader = Bench.ready(load);
        dueRun("read", reader, 50, 8, FAULT, 0, 1, 1);
        due("again", reader.x.resume(Bench.THREAD, 5), FAULT);
        dueTold("again", reader.x, FAULT, 0, 1, 0);
        dueWords("read", reader.wordsOf(Bench.THREAD), 0, 1, 1, 50, 8, 11);
        int[] store = {Code.wide(Code.MOVE, 2, 11), Code.word(Code.STORE, 2, 0, 0), Code.end(2)};
        Bench writer = Bench.open(0).with(Bench.CODE, 0, 4, store).with(5, 1, 5, 66).close();
        dueRun("write", writer, 32, 8, FAULT, 0, 1, 1);
        dueWords("write", writer.wordsOf(Bench.THREAD), 0, 1, 1, 32, 8, 11);
        dueWords("write", writer.wordsOf(5), 66);
        Bench runner = Bench.ready(Code.wide(Code.JUMP, 0, 40));
        dueRun("run", runner, 2, 8, FAULT, 0, 1, 1);
        dueWords("run", runner.wordsOf(Bench.THREAD), 0, 1, 40, 2, 8);
    }

    private static void illegalChangesNothing() {
        EDGES.of("A step that is ILLEGAL changes nothing and is none that was made");
        Bench bench = Bench.ready(Code.wide(Code.MOVE, 2, 11), 0x0A020001);
        dueRun("ILLEGAL", bench, 50, 8, ILLEGAL, 0, NONE, 1);
        due("again", bench.x.resume(Bench.THREAD, 5), ILLEGAL);
        dueTold("again", bench.x, ILLEGAL, 0, NONE, 0);
        dueWords("THREAD", bench.wordsOf(Bench.THREAD), 0, 1, 1, 50, 8, 11);
        dueWords("code", bench.wordsOf(Bench.CODE), Code.wide(Code.MOVE, 2, 11), 0x0A020001);
    }

    private static void stepsAtMost() {
        EDGES.of("A RUN makes steps, as many as told at most");
        for (int steps : new int[] {0, 1, 2, 4999, 5000}) {
            Bench bench = Bench.ready(Code.word(Code.ADD, 0, 0, 1), Code.wide(Code.JUMP, 1, -1));
            due("steps " + steps, bench.x.enter(Bench.THREAD, 0, 1, steps), NO_MORE_STEPS);
            dueTold("steps " + steps, bench.x, NO_MORE_STEPS, 0, NONE, steps);
            dueWords("steps " + steps, bench.wordsOf(Bench.THREAD), 0, 1, steps % 2, (steps + 1) / 2, 1);
        }
    }

    private static void endMakesIdle() {
        EDGES.of("With END (a step that was made) the THREAD is IDLE, its words 1 .. 10 are 0");
        int[] words = anyWords(-100);
        words[2] = 0;
        Bench bench = Bench.ready(Code.end(7)).forgeThread(words);
        due("resume", bench.x.resume(Bench.THREAD, 1), END);
        dueTold("END", bench.x, END, words[10], NONE, 1);
        due("IDLE", bench.x.page(Bench.THREAD, 7), 0);
        int[] want = words.clone();
        Arrays.fill(want, 1, 11, 0);
        dueWords("words 0 and 11 .. 31 stay", bench.wordsOf(Bench.THREAD), want);
    }

    private static void elseIsSaved() {
        EDGES.of("else word 1 is 1, 2 .. 10 PC and registers as they are");
        int[][] codes = {{Code.wide(Code.MOVE, 3, 5)}, {Code.word(Code.LOAD, 0, 0, 0)}, {RUBBISH}};
        int[] hows = {NO_MORE_STEPS, FAULT, ILLEGAL};
        for (int k = 0; k < 3; k++) {
            int[] words = anyWords(-100);
            words[2] = 0;
            Bench bench = Bench.ready(codes[k]).forgeThread(words);
            due("resume", bench.x.resume(Bench.THREAD, 1), hows[k]);
            due("SAVED", bench.x.page(Bench.THREAD, 7), 1);
            int[] want = words.clone();
            want[1] = 1;
            if (k == 0) {
                want[2] = 1;
                want[6] = 5;
            }
            dueWords("how " + hows[k], bench.wordsOf(Bench.THREAD), want);
        }
        int[] words = anyWords(-100);
        Bench none = Bench.ready(Code.end(0)).forgeThread(words);
        due("no step at all", none.x.resume(Bench.THREAD, 0), NO_MORE_STEPS);
        words[1] = 1;
        dueWords("no step at all", none.wordsOf(Bench.THREAD), words);
    }

    private static void noMoreStepsIsAskedFirst() {
        EDGES.of("Whether there are no more steps is asked ahead of the next one");
        int move = Code.wide(Code.MOVE, 0, 5);
        int[][] codes = {{move, Code.end(0)}, {move, Code.word(Code.LOAD, 1, 0, 255)}, {move, RUBBISH}};
        int[] hows = {END, FAULT, ILLEGAL};
        for (int k = 0; k < 3; k++) {
            Bench bench = Bench.ready(codes[k]);
            due("0 steps", bench.x.enter(Bench.THREAD, 0, 0, 0), NO_MORE_STEPS);
            dueTold("0 steps", bench.x, NO_MORE_STEPS, 0, NONE, 0);
            due("1 step", bench.x.resume(Bench.THREAD, 1), NO_MORE_STEPS);
            dueTold("1 step", bench.x, NO_MORE_STEPS, 0, NONE, 1);
            due("0 steps", bench.x.resume(Bench.THREAD, 0), NO_MORE_STEPS);
            dueTold("0 steps", bench.x, NO_MORE_STEPS, 0, NONE, 0);
            due("1 step", bench.x.resume(Bench.THREAD, 1), hows[k]);
            dueTold("1 step", bench.x, hows[k], k == 0 ? 5 : 0, k == 1 ? 8 : NONE, k == 0 ? 1 : 0);
        }
        Bench nowhere = Bench.open(5).close();
        due("PC without a page, 0 steps", nowhere.x.enter(Bench.THREAD, 0, 0, 0), NO_MORE_STEPS);
        due("PC without a page, 1 step", nowhere.x.resume(Bench.THREAD, 1), FAULT);
    }
}
