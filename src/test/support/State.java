import java.util.Map;
import java.util.TreeMap;

/** All that a monitor of the House's size can be asked, by the names of the calls. */
final class State {
    private State() {
    }

    static String page(int page, int what) {
        return "page(" + page + ", " + what + ")";
    }

    static String measure(int enclave, int k) {
        return "measure(" + enclave + ", " + k + ")";
    }

    static String slot(int versions, int slot) {
        return "slot(" + versions + ", " + slot + ")";
    }

    static String buffer(int k) {
        return "buffer(" + k + ")";
    }

    static String count(int what) {
        return "count(" + what + ")";
    }

    static String told(int what) {
        return "told(" + what + ")";
    }

    /** What asking shows. MEASUREs and SLOTs are asked only where there are some: 512 calls are few. */
    static Map<String, Long> shown(EnclaveMonitor x) {
        Map<String, Long> all = new TreeMap<>();
        for (int p = 0; p < x.count(0); p++) {
            for (int k = 0; k < 8; k++) {
                all.put(page(p, k), (long) x.page(p, k));
            }
            long type = all.get(page(p, 0));
            for (int k = 0; k < 8 && type == 1; k++) {
                all.put(measure(p, k), (long) x.measure(p, k));
            }
            for (int k = 0; k < 16 && type == 4; k++) {
                all.put(slot(p, k), x.slot(p, k));
            }
        }
        for (int k = 0; k < 64; k++) {
            all.put(buffer(k), (long) x.buffer(k));
        }
        for (int k = 0; k <= 10; k++) {
            all.put(count(k), (long) x.count(k));
        }
        for (int k = 0; k < 4; k++) {
            all.put(told(k), (long) x.told(k));
        }
        return all;
    }

    /** The words inside the House's pages, which only their BLOBs show; the pages are let go for it. */
    static Map<String, Long> hidden(EnclaveMonitor x) {
        Map<String, Long> all = new TreeMap<>();
        all.put("finalise", (long) x.finalise(House.OPEN));
        int[] pages = {House.IDLE, House.SAVED, House.CODE, House.OPEN_THREAD, House.OPEN_DATA};
        for (int k = 0; k < pages.length; k++) {
            all.put("evict " + pages[k], (long) x.evict(pages[k], House.VERSIONS, 3 + k));
            for (int w = 0; w < 48; w++) {
                all.put("BLOB of " + pages[k] + ", word " + w, (long) x.buffer(w));
            }
        }
        return all;
    }
}
