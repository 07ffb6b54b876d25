/** Promises 1 to 10 and 16 to 19: the database of pages, and enclaves that are built and removed. */
public final class BuildTest {
    private static final int NONE = EnclaveMonitor.NONE;
    private static final Check CHECK = new Check();

    private BuildTest() {
    }

    public static void main(String[] args) {
        sizes();
        newObject();
        bufferWords();
        create();
        thread();
        threadRefused();
        data();
        dataRefused();
        versions();
        finalise();
        stop();
        remove();
        removedIsAsNew();
        askedOfPages();
        measureAsked();
        counts();
        CHECK.end("BuildTest");
    }

    private static void due(String call, long got, long want) {
        CHECK.due(call, got, want);
    }

    private static void dueMeasure(String when, EnclaveMonitor x, int enclave, int[] want) {
        for (int k = 0; k < 8; k++) {
            due(when + " measure " + k, x.measure(enclave, k), want[k]);
        }
    }

    private static void duePage(String when, EnclaveMonitor x, int page, int... want) {
        for (int k = 0; k < want.length; k++) {
            due(when + " page(" + page + ", " + k + ")", x.page(page, k), want[k]);
        }
    }

    private static void dueFree(String when, EnclaveMonitor x, int page) {
        duePage(when, x, page, 0, NONE, NONE, 0, 0, NONE, 0, 0);
    }

    private static void sizes() {
        int[][] asked = {{8, 8}, {9, 9}, {39, 39}, {40, 40}, {7, 16}, {41, 16}, {0, 16}, {-8, 16},
            {16, 16}, {Integer.MAX_VALUE, 16}, {Integer.MIN_VALUE, 16}};
        for (int[] size : asked) {
            EnclaveMonitor x = new EnclaveMonitor(size[0], 5L);
            due("pages of " + size[0], x.count(0), size[1]);
            due("FREE of " + size[0], x.count(1), size[1]);
            due("last of " + size[0], x.page(size[1] - 1, 0), 0);
            due("behind the last of " + size[0], x.page(size[1], 0), NONE);
            due("create behind the last", x.create(size[1]), 1);
            due("create the last", x.create(size[1] - 1), 0);
        }
    }

    private static void newObject() {
        EnclaveMonitor x = new EnclaveMonitor(8, 1L);
        for (int k = 0; k < 8; k++) {
            dueFree("new", x, k);
        }
        for (int k = 0; k < 64; k++) {
            due("new buffer " + k, x.buffer(k), 0);
        }
        for (int k = 2; k <= 10; k++) {
            due("new count " + k, x.count(k), 0);
        }
        for (int k = -1; k < 5; k++) {
            due("new told " + k, x.told(k), NONE);
        }
    }

    private static boolean pokeThrows(EnclaveMonitor x, int k) {
        try {
            x.poke(k, 77);
        } catch (IndexOutOfBoundsException e) {
            return e.getClass() == IndexOutOfBoundsException.class;
        }
        return false;
    }

    private static boolean bufferThrows(EnclaveMonitor x, int k) {
        try {
            x.buffer(k);
        } catch (IndexOutOfBoundsException e) {
            return e.getClass() == IndexOutOfBoundsException.class;
        }
        return false;
    }

    private static void bufferWords() {
        EnclaveMonitor x = new EnclaveMonitor(8, 1L);
        for (int k : new int[] {-1, 64, 65, Integer.MIN_VALUE, Integer.MAX_VALUE}) {
            CHECK.isTrue("poke throws at " + k, pokeThrows(x, k));
            CHECK.isTrue("buffer throws at " + k, bufferThrows(x, k));
        }
        for (int k = 0; k < 64; k++) {
            x.poke(k, Integer.MIN_VALUE + k);
        }
        for (int k = 0; k < 64; k++) {
            due("poked " + k, x.buffer(k), Integer.MIN_VALUE + k);
        }
        x.poke(63, 4);
        due("poked again", x.buffer(63), 4);
    }

    private static void create() {
        EnclaveMonitor x = new EnclaveMonitor(8, 1L);
        due("create", x.create(3), 0);
        duePage("created", x, 3, 1, NONE, NONE, 0, 1, 0, 0, 0);
        dueMeasure("created", x, 3, new int[8]);
        due("create again", x.create(3), 1);
        due("create -1", x.create(-1), 1);
        due("create 8", x.create(8), 1);
        due("create least", x.create(Integer.MIN_VALUE), 1);
        due("create most", x.create(Integer.MAX_VALUE), 1);
        due("refused ones take no IDENT", x.create(0), 0);
        due("IDENT", x.page(0, 4), 2);
        due("created", x.count(10), 2);
    }

    private static void thread() {
        EnclaveMonitor x = new EnclaveMonitor(8, 1L);
        x.create(2);
        due("thread", x.thread(2, 5, 1023), 0);
        duePage("added", x, 5, 2, 2, NONE, 0, 0, NONE, 0, 0);
        int[] one = Seals.added(new int[8], 2, 1023, 0, Code.page(1023));
        dueMeasure("thread", x, 2, one);
        due("another", x.thread(2, 4, 0), 0);
        dueMeasure("two threads", x, 2, Seals.added(one, 2, 0, 0, Code.page(0)));
        due("owns", x.page(2, 6), 2);
    }

    private static void threadRefused() {
        EnclaveMonitor x = new EnclaveMonitor(8, 1L);
        x.create(0);
        x.versions(1);
        due("no enclave", x.thread(2, 3, 0), 1);
        due("VERSIONS is none", x.thread(1, 3, 0), 1);
        due("-1 is none", x.thread(-1, 3, 0), 1);
        due("8 is none", x.thread(8, 3, 0), 1);
        due("page -1", x.thread(0, -1, 0), 1);
        due("page 8", x.thread(0, 8, 0), 1);
        due("page not FREE", x.thread(0, 1, 0), 1);
        due("page is the enclave", x.thread(0, 0, 0), 1);
        due("1 comes ahead of 3", x.thread(0, 1, 1024), 1);
        due("entry 1024", x.thread(0, 3, 1024), 3);
        due("entry -1", x.thread(0, 3, -1), 3);
        due("entry most", x.thread(0, 3, Integer.MAX_VALUE), 3);
        dueFree("refused", x, 3);
        dueMeasure("refused", x, 0, new int[8]);
        x.finalise(0);
        due("FINAL", x.thread(0, 3, 0), 2);
        due("2 comes ahead of 3", x.thread(0, 3, -1), 2);
        due("1 comes ahead of 2", x.thread(0, 1, 0), 1);
        x.stop(0);
        due("STOPPED", x.thread(0, 3, 0), 2);
    }

    private static void data() {
        EnclaveMonitor x = new EnclaveMonitor(8, 1L);
        int[] words = new int[32];
        for (int k = 0; k < 64; k++) {
            x.poke(k, 1000003 * (k + 1));
        }
        for (int k = 0; k < 32; k++) {
            words[k] = 1000003 * (k + 1);
        }
        x.create(0);
        x.create(7);
        due("data", x.data(0, 1, 31, 7), 0);
        duePage("added", x, 1, 3, 0, 31, 7, 0, NONE, 0, 0);
        int[] one = Seals.added(new int[8], 3, 31, 7, words);
        dueMeasure("data", x, 0, one);
        due("rights 0", x.data(0, 2, 0, 0), 0);
        dueMeasure("second", x, 0, Seals.added(one, 3, 0, 0, words));
        due("ADDRESS of another enclave", x.data(7, 3, 31, 1), 0);
        dueMeasure("other", x, 7, Seals.added(new int[8], 3, 31, 1, words));
        for (int k = 0; k < 64; k++) {
            due("BUFFER stays", x.buffer(k), 1000003 * (k + 1));
        }
    }

    private static void dataRefused() {
        EnclaveMonitor x = new EnclaveMonitor(8, 1L);
        x.create(0);
        x.data(0, 1, 4, 7);
        int[] measure = Seals.added(new int[8], 3, 4, 7, new int[32]);
        due("no enclave", x.data(2, 3, 0, 0), 1);
        due("DATA is none", x.data(1, 3, 0, 0), 1);
        due("-1 is none", x.data(-1, 3, 0, 0), 1);
        due("8 is none", x.data(8, 3, 0, 0), 1);
        due("page -1", x.data(0, -1, 0, 0), 1);
        due("page 8", x.data(0, 8, 0, 0), 1);
        due("page not FREE", x.data(0, 1, 0, 0), 1);
        due("1 comes ahead of 3", x.data(0, 1, 32, 8), 1);
        due("address 32", x.data(0, 2, 32, 7), 3);
        due("address -1", x.data(0, 2, -1, 7), 3);
        due("rights 8", x.data(0, 2, 0, 8), 3);
        due("rights -1", x.data(0, 2, 0, -1), 3);
        due("ADDRESS taken", x.data(0, 2, 4, 7), 3);
        dueFree("refused", x, 2);
        dueMeasure("refused", x, 0, measure);
        due("owns", x.page(0, 6), 1);
        x.thread(0, 3, 2);
        due("a THREAD takes no ADDRESS", x.data(0, 4, 0, 7), 0);
        x.finalise(0);
        due("FINAL", x.data(0, 2, 1, 0), 2);
        due("2 comes ahead of 3", x.data(0, 2, 32, 0), 2);
        x.stop(0);
        due("STOPPED", x.data(0, 2, 1, 0), 2);
    }

    private static void versions() {
        EnclaveMonitor x = new EnclaveMonitor(8, 1L);
        due("versions", x.versions(7), 0);
        duePage("VERSIONS", x, 7, 4, NONE, NONE, 0, 0, NONE, 0, 0);
        due("again", x.versions(7), 1);
        due("-1", x.versions(-1), 1);
        due("8", x.versions(8), 1);
        x.create(0);
        due("an enclave", x.versions(0), 1);
        for (int k = -1; k <= 16; k++) {
            due("slot " + k, x.slot(7, k), 0);
        }
        due("slot of an enclave", x.slot(0, 0), 0);
        due("slot of -1", x.slot(-1, 0), 0);
        due("slot of 8", x.slot(8, 0), 0);
    }

    private static void finalise() {
        EnclaveMonitor x = new EnclaveMonitor(8, 1L);
        due("FREE", x.finalise(1), 1);
        due("-1", x.finalise(-1), 1);
        due("8", x.finalise(8), 1);
        x.create(1);
        x.thread(1, 2, 9);
        due("a THREAD", x.finalise(2), 1);
        due("finalise", x.finalise(1), 0);
        due("FINAL", x.page(1, 5), 1);
        int[] want = Seals.finalised(Seals.added(new int[8], 2, 9, 0, Code.page(9)));
        dueMeasure("finalised", x, 1, want);
        due("again", x.finalise(1), 2);
        dueMeasure("refused", x, 1, want);
        x.stop(1);
        dueMeasure("stopped", x, 1, want);
        due("STOPPED", x.finalise(1), 2);
        due("is STOPPED still", x.page(1, 5), 2);
    }

    private static void stop() {
        EnclaveMonitor x = new EnclaveMonitor(8, 1L);
        due("FREE", x.stop(1), 1);
        due("-1", x.stop(-1), 1);
        due("8", x.stop(8), 1);
        x.create(1);
        x.create(2);
        x.finalise(2);
        due("an OPEN one", x.stop(1), 0);
        due("a FINAL one", x.stop(2), 0);
        due("STOPPED", x.page(1, 5), 2);
        due("STOPPED", x.page(2, 5), 2);
        due("again", x.stop(1), 2);
        x.versions(3);
        due("VERSIONS", x.stop(3), 1);
    }

    private static void remove() {
        EnclaveMonitor x = new EnclaveMonitor(8, 1L);
        due("FREE", x.remove(0), 1);
        due("-1", x.remove(-1), 1);
        due("8", x.remove(8), 1);
        x.create(0);
        x.thread(0, 1, 0);
        x.data(0, 2, 0, 7);
        x.versions(3);
        due("VERSIONS", x.remove(3), 0);
        due("VERSIONS again", x.remove(3), 1);
        due("OPEN owner", x.remove(1), 2);
        due("OPEN enclave", x.remove(0), 2);
        x.finalise(0);
        due("FINAL owner", x.remove(2), 2);
        due("FINAL enclave", x.remove(0), 2);
        x.create(4);
        x.finalise(4);
        due("FINAL enclave without pages", x.remove(4), 2);
        x.create(5);
        due("OPEN enclave without pages", x.remove(5), 2);
        x.stop(5);
        due("STOPPED enclave without pages", x.remove(5), 0);
        x.stop(0);
        due("owner of two", x.remove(0), 2);
        due("DATA", x.remove(2), 0);
        due("owner of one", x.remove(0), 2);
        due("THREAD", x.remove(1), 0);
        due("owner of none", x.remove(0), 0);
        for (int k = 0; k < 4; k++) {
            dueFree("removed", x, k);
        }
        due("created ones stay counted", x.count(10), 3);
    }

    private static void removedIsAsNew() {
        EnclaveMonitor x = new EnclaveMonitor(8, 1L);
        x.create(0);
        x.poke(0, 9);
        x.poke(31, 8);
        x.data(0, 1, 3, 7);
        x.thread(0, 2, 3);
        x.stop(0);
        x.remove(1);
        x.remove(2);
        x.remove(0);
        due("create", x.create(0), 0);
        due("IDENT goes on", x.page(0, 4), 2);
        due("OPEN", x.page(0, 5), 0);
        dueMeasure("new enclave", x, 0, new int[8]);
        x.thread(0, 1, 6);
        dueMeasure("no old words", x, 0, Seals.added(new int[8], 2, 6, 0, Code.page(6)));
        x.versions(2);
        for (int k = 0; k < 16; k++) {
            due("no old number", x.slot(2, k), 0);
        }
    }

    private static void askedOfPages() {
        EnclaveMonitor x = new EnclaveMonitor(8, 1L);
        x.create(4);
        x.thread(4, 0, 7);
        x.data(4, 1, 9, 6);
        x.versions(2);
        duePage("ENCLAVE", x, 4, 1, NONE, NONE, 0, 1, 0, 2, 0, NONE);
        duePage("THREAD", x, 0, 2, 4, NONE, 0, 0, NONE, 0, 0, NONE);
        duePage("DATA", x, 1, 3, 4, 9, 6, 0, NONE, 0, 0, NONE);
        duePage("VERSIONS", x, 2, 4, NONE, NONE, 0, 0, NONE, 0, 0, NONE);
        duePage("no page", x, -1, NONE, NONE, NONE, NONE, NONE, NONE, NONE, NONE, NONE);
        duePage("no page", x, 8, NONE, NONE, NONE, NONE, NONE, NONE, NONE, NONE, NONE);
        for (int what : new int[] {-1, 8, Integer.MIN_VALUE, Integer.MAX_VALUE}) {
            due("what " + what, x.page(4, what), NONE);
        }
        due("page most", x.page(Integer.MAX_VALUE, 0), NONE);
        due("page least", x.page(Integer.MIN_VALUE, 0), NONE);
    }

    private static void measureAsked() {
        EnclaveMonitor x = new EnclaveMonitor(8, 1L);
        x.create(0);
        x.finalise(0);
        x.versions(1);
        CHECK.isTrue("a measure is there", x.measure(0, 0) != 0);
        for (int k : new int[] {-1, 8, Integer.MIN_VALUE, Integer.MAX_VALUE}) {
            due("word " + k, x.measure(0, k), 0);
        }
        due("VERSIONS", x.measure(1, 0), 0);
        due("FREE", x.measure(2, 0), 0);
        due("-1", x.measure(-1, 0), 0);
        due("8", x.measure(8, 0), 0);
    }

    private static void counts() {
        EnclaveMonitor x = new EnclaveMonitor(10, 1L);
        x.create(0);
        x.create(1);
        x.create(2);
        x.thread(0, 3, 0);
        x.thread(1, 4, 0);
        x.data(0, 5, 0, 7);
        x.versions(6);
        int[] want = {10, 3, 3, 2, 1, 1, 0, 0, 0, 0, 3};
        for (int k = 0; k < want.length; k++) {
            due("count " + k, x.count(k), want[k]);
        }
        for (int k : new int[] {-1, 11, Integer.MIN_VALUE, Integer.MAX_VALUE}) {
            due("count " + k, x.count(k), NONE);
        }
    }
}
