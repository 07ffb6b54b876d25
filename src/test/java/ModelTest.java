import java.util.ArrayList;
import java.util.List;
import java.util.Random;

/**
 * Long runs of calls that a fixed seed chooses, each answer against that of a second monitor, which
 * is written apart from the first in the plainest way and seals by the Java library.
 */
public final class ModelTest {
    private static final Check CHECK = new Check();
    private static final int RUNS = 1500;
    private static final int CALLS = 512;

    private final Random random;
    private final EnclaveMonitor real;
    private final Model model;
    private final List<int[]> blobs = new ArrayList<>();
    private int calls;

    private ModelTest(long seed) {
        random = new Random(seed);
        int pages = random.nextInt(4) == 0 ? random.nextInt(60) - 5 : 8 + random.nextInt(5);
        long key = random.nextLong();
        real = new EnclaveMonitor(pages, key);
        model = new Model(pages, key);
    }

    public static void main(String[] args) {
        for (int k = 0; k < RUNS && !CHECK.failed(); k++) {
            new ModelTest(k).go();
        }
        CHECK.end("ModelTest");
    }

    private void go() {
        while (calls < CALLS && !CHECK.failed()) {
            switch (random.nextInt(10)) {
                case 0:
                    build();
                    break;
                case 1:
                    end();
                    break;
                case 2:
                case 3:
                case 4:
                    run();
                    break;
                case 5:
                case 6:
                    seal();
                    break;
                case 7:
                    takeBack();
                    break;
                case 8:
                    ask();
                    break;
                default:
                    pokeOne();
                    break;
            }
        }
    }

    private void due(String call, long got, long want) {
        calls++;
        CHECK.due(call, got, want);
    }

    private int any(int... choices) {
        return choices[random.nextInt(choices.length)];
    }

    private int somePage(int type) {
        List<Integer> fit = new ArrayList<>();
        for (int k = 0; k < model.pages.length; k++) {
            if (model.pages[k].type == type) {
                fit.add(k);
            }
        }
        if (fit.isEmpty() || random.nextInt(12) == 0) {
            return random.nextInt(model.pages.length + 2) - 1;
        }
        return fit.get(random.nextInt(fit.size()));
    }

    private void poke(int k, int v) {
        if (calls < CALLS) {
            calls++;
            real.poke(k, v);
            model.buffer[k] = v;
        }
    }

    private void pokeAll(int[] words, int many) {
        for (int k = 0; k < many; k++) {
            if (model.buffer[k] != words[k]) {
                poke(k, words[k]);
            }
        }
    }

    private void pokeOne() {
        if (random.nextInt(4) == 0) {
            poke(random.nextInt(64), random.nextInt());
        } else {
            poke(random.nextInt(32), step());
        }
    }

    private int step() {
        int kind = random.nextInt(25) == 0 ? random.nextInt(256) : any(0, 1, 1, 2, 3, 4, 5, 5, 6, 6, 7, 7, 8, 9);
        int word = (kind << 24) | (random.nextInt(256) << 16) | random.nextInt(65536);
        if (kind == 1 && random.nextInt(3) != 0) {
            return (word & 0xFFFF0000) | random.nextInt(160);
        }
        if (kind == 7) {
            return (word & 0xFFFF0000) | ((random.nextInt(40) - 12) & 0xFFFF);
        }
        if ((kind == 5 || kind == 6) && random.nextInt(3) != 0) {
            return (word & 0xFFFFFF00) | random.nextInt(64);
        }
        return word;
    }

    private void build() {
        int enclave = somePage(1);
        int page = somePage(0);
        int address = random.nextInt(8) == 0 ? random.nextInt(36) - 2 : random.nextInt(4);
        int rights = random.nextInt(3) == 0 ? random.nextInt(10) - 1 : 7;
        int entry = random.nextInt(8) == 0 ? any(-1, 1023, 1024) : random.nextInt(64);
        due("create", real.create(page), model.create(page));
        page = somePage(0);
        for (int k = 0; k < 8; k++) {
            poke(random.nextInt(32), step());
        }
        due("data", real.data(enclave, page, address, rights), model.data(enclave, page, address, rights));
        page = somePage(0);
        due("thread", real.thread(enclave, page, entry), model.thread(enclave, page, entry));
        if (random.nextInt(3) == 0) {
            page = somePage(0);
            due("versions", real.versions(page), model.versions(page));
        }
        if (random.nextInt(2) == 0) {
            due("finalise", real.finalise(enclave), model.finalise(enclave));
        }
    }

    private void end() {
        int page = somePage(any(1, 2, 3, 4));
        if (random.nextInt(3) == 0) {
            int enclave = somePage(1);
            due("stop", real.stop(enclave), model.stop(enclave));
        }
        due("remove", real.remove(page), model.remove(page));
    }

    private void run() {
        int page = somePage(2);
        int steps = random.nextInt(10) == 0 ? any(-1, 0, 5000, 5001) : random.nextInt(60);
        if (random.nextBoolean()) {
            int a = random.nextInt(130) - 2;
            int b = any(0, 1, -1, random.nextInt());
            due("enter", real.enter(page, a, b, steps), model.enter(page, a, b, steps));
        } else {
            due("resume", real.resume(page, steps), model.resume(page, steps));
        }
        int what = random.nextInt(4);
        due("told", real.told(what), model.told(what));
    }

    private void seal() {
        int page = somePage(any(2, 3));
        int versions = somePage(4);
        int slot = random.nextInt(8) == 0 ? random.nextInt(20) - 2 : random.nextInt(4);
        int done = model.evict(page, versions, slot);
        due("evict", real.evict(page, versions, slot), done);
        if (done == 0) {
            blobs.add(model.buffer.clone());
        }
        int word = random.nextInt(48);
        due("buffer", real.buffer(word), model.buffer[word]);
    }

    private void takeBack() {
        if (!blobs.isEmpty() && random.nextInt(3) != 0) {
            int[] blob = blobs.get(blobs.size() - 1 - random.nextInt(Math.min(3, blobs.size())));
            if (random.nextInt(4) == 0) {
                blob = forged(blob);
            }
            pokeAll(blob, 48);
        }
        int page = somePage(0);
        int enclave = somePage(1);
        int versions = somePage(4);
        int slot = random.nextInt(8) == 0 ? random.nextInt(20) - 2 : slotWith(versions);
        due("reload", real.reload(page, enclave, versions, slot), model.reload(page, enclave, versions, slot));
    }

    /** Most often the SLOT with the number that BUFFER has, so that pages do come back. */
    private int slotWith(int versions) {
        for (int k = 0; k < 16; k++) {
            if (model.slot(versions, k) == model.buffer[5] && random.nextInt(8) != 0) {
                return k;
            }
        }
        return random.nextInt(4);
    }

    private int[] forged(int[] blob) {
        int[] page = new int[32];
        int[] stream = model.seals.stream(blob[4], blob[5]);
        for (int k = 0; k < 32; k++) {
            page[k] = blob[8 + k] ^ stream[k];
            if (random.nextInt(20) == 0) {
                page[k] = any(0, 1, -1, random.nextInt(), random.nextInt(64), step());
            }
        }
        int type = any(blob[0], 2, 3, 0, -7);
        int address = any(blob[1], 0, 1, 31, 32, -1, random.nextInt());
        int rights = any(blob[2], 7, 8, -1, random.nextInt());
        long number = (((long) blob[4]) << 32) | (blob[5] & 0xFFFFFFFFL);
        return model.seals.blob(type, address, rights, any(blob[3], blob[3], 1, 2), number, page);
    }

    private void ask() {
        int page = random.nextInt(model.pages.length + 2) - 1;
        int what = random.nextInt(10) - 1;
        due("page(" + page + ", " + what + ")", real.page(page, what), model.page(page, what));
        due("measure", real.measure(page, what), model.measure(page, what));
        int versions = somePage(4);
        int slot = random.nextInt(18) - 1;
        due("slot", real.slot(versions, slot), model.slot(versions, slot));
        int count = random.nextInt(13) - 1;
        due("count " + count, real.count(count), model.count(count));
        int told = random.nextInt(6) - 1;
        due("told " + told, real.told(told), model.told(told));
        int word = random.nextInt(64);
        due("buffer " + word, real.buffer(word), model.buffer[word]);
    }
}
