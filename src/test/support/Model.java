import java.util.Arrays;

/** The document once more, read apart from EnclaveMonitor, without a thought of speed or of room. */
final class Model {
    static final class Leaf {
        int type;
        int owner = -1;
        int address = -1;
        int rights;
        int ident;
        int state = -1;
        int[] words = new int[32];
        int[] measure = new int[8];
    }

    final Leaf[] pages;
    final int[] buffer = new int[64];
    final Seals seals;
    private final int[] counts = new int[11];
    private int[] latest = {-1, -1, -1, -1};

    Model(int size, long seed) {
        pages = new Leaf[size < 8 || size > 40 ? 16 : size];
        Arrays.setAll(pages, k -> new Leaf());
        seals = new Seals(seed);
    }

    private Leaf get(int page, int type) {
        return page >= 0 && page < pages.length && pages[page].type == type ? pages[page] : null;
    }

    int create(int page) {
        if (get(page, 0) == null) {
            return 1;
        }
        counts[10]++;
        pages[page].type = 1;
        pages[page].state = 0;
        pages[page].ident = counts[10];
        return 0;
    }

    int thread(int enclave, int page, int entry) {
        Leaf e = get(enclave, 1);
        Leaf p = get(page, 0);
        if (e == null || p == null) {
            return 1;
        }
        if (e.state != 0) {
            return 2;
        }
        if (entry < 0 || entry > 1023) {
            return 3;
        }
        p.type = 2;
        p.owner = enclave;
        p.words[0] = entry;
        e.measure = Seals.added(e.measure, 2, entry, 0, p.words);
        return 0;
    }

    int data(int enclave, int page, int address, int rights) {
        Leaf e = get(enclave, 1);
        Leaf p = get(page, 0);
        if (e == null || p == null) {
            return 1;
        }
        if (e.state != 0) {
            return 2;
        }
        if (address < 0 || address > 31 || rights < 0 || rights > 7 || find(enclave, address) != null) {
            return 3;
        }
        p.type = 3;
        p.owner = enclave;
        p.address = address;
        p.rights = rights;
        p.words = Arrays.copyOf(buffer, 32);
        e.measure = Seals.added(e.measure, 3, address, rights, p.words);
        return 0;
    }

    private Leaf find(int enclave, int address) {
        for (Leaf p : pages) {
            if (p.type == 3 && p.owner == enclave && p.address == address) {
                return p;
            }
        }
        return null;
    }

    int versions(int page) {
        if (get(page, 0) == null) {
            return 1;
        }
        pages[page].type = 4;
        return 0;
    }

    int finalise(int enclave) {
        Leaf e = get(enclave, 1);
        if (e == null) {
            return 1;
        }
        if (e.state != 0) {
            return 2;
        }
        e.state = 1;
        e.measure = Seals.finalised(e.measure);
        return 0;
    }

    int stop(int enclave) {
        Leaf e = get(enclave, 1);
        if (e == null) {
            return 1;
        }
        if (e.state == 2) {
            return 2;
        }
        e.state = 2;
        return 0;
    }

    int remove(int page) {
        if (page < 0 || page >= pages.length || pages[page].type == 0) {
            return 1;
        }
        Leaf p = pages[page];
        if (p.owner >= 0 && pages[p.owner].state != 2) {
            return 2;
        }
        if (p.type == 1 && (p.state != 2 || owned(page) > 0)) {
            return 2;
        }
        pages[page] = new Leaf();
        return 0;
    }

    private int owned(int page) {
        int many = 0;
        for (Leaf p : pages) {
            if ((p.type == 2 || p.type == 3) && p.owner == page) {
                many++;
            }
        }
        return many;
    }

    int enter(int page, int a, int b, int steps) {
        Leaf t = get(page, 2);
        if (t == null) {
            return -1;
        }
        if (pages[t.owner].state != 1 || t.words[1] != 0) {
            return -2;
        }
        if (steps < 0 || steps > 5000) {
            return -6;
        }
        int[] r = new int[8];
        r[0] = a;
        r[1] = b;
        return go(t, t.words[0], r, steps);
    }

    int resume(int page, int steps) {
        Leaf t = get(page, 2);
        if (t == null) {
            return -1;
        }
        if (pages[t.owner].state != 1 || t.words[1] == 0) {
            return -2;
        }
        if (steps < 0 || steps > 5000) {
            return -6;
        }
        return go(t, t.words[2], Arrays.copyOfRange(t.words, 3, 11), steps);
    }

    private boolean may(int enclave, long address, int right) {
        if (address < 0 || address > 1023) {
            return false;
        }
        Leaf p = find(enclave, (int) (address / 32));
        return p != null && (p.rights & 7 & right) != 0;
    }

    private static int blamed(int address) {
        return address < 0 || address > 1023 ? -1 : address / 32;
    }

    private int go(Leaf t, int pc, int[] r, int steps) {
        int made = 0;
        int how = -1;
        int with = 0;
        int bad = -1;
        while (how < 0) {
            if (made == steps) {
                how = 2;
                break;
            }
            if (!may(t.owner, pc, 4)) {
                how = 1;
                bad = blamed(pc);
                break;
            }
            int w = find(t.owner, pc / 32).words[pc % 32];
            int kind = (w >> 24) & 255;
            int a = ((w >> 16) & 255) % 8;
            int b = ((w >> 8) & 255) % 8;
            int c = w & 255;
            int n = (w << 16) >> 16;
            int at = r[b] + c;
            if (kind > 9) {
                how = 3;
                break;
            }
            if ((kind == 5 && !may(t.owner, at, 1)) || (kind == 6 && !may(t.owner, at, 2))) {
                how = 1;
                bad = blamed(at);
                break;
            }
            made++;
            if (kind == 0) {
                how = 0;
                with = r[a];
                break;
            }
            pc = kind == 7 && r[a] != 0 ? pc + n : pc + 1;
            if (kind == 1) {
                r[a] = n;
            } else if (kind == 2) {
                r[a] = r[b] + r[c % 8];
            } else if (kind == 3) {
                r[a] = r[b] ^ r[c % 8];
            } else if (kind == 4) {
                r[a] = r[b] * r[c % 8];
            } else if (kind == 5) {
                r[a] = find(t.owner, at / 32).words[at % 32];
            } else if (kind == 6) {
                find(t.owner, at / 32).words[at % 32] = r[a];
            } else if (kind == 8) {
                r[a] = (int) ((r[b] & 0xFFFFFFFFL) >> (c % 32));
            } else if (kind == 9) {
                r[a] = pages[t.owner].measure[c % 8];
            }
        }
        t.words[1] = how == 0 ? 0 : 1;
        t.words[2] = how == 0 ? 0 : pc;
        for (int k = 0; k < 8; k++) {
            t.words[3 + k] = how == 0 ? 0 : r[k];
        }
        latest = new int[] {how, with, bad, made};
        return how;
    }

    int told(int what) {
        return what < 0 || what > 3 ? -1 : latest[what];
    }

    int evict(int page, int versions, int slot) {
        Leaf p = get(page, 2) != null ? get(page, 2) : get(page, 3);
        Leaf v = get(versions, 4);
        if (p == null || v == null) {
            return 1;
        }
        if (pages[p.owner].state != 1) {
            return 2;
        }
        if (slot < 0 || slot > 15 || slot(versions, slot) != 0) {
            return 3;
        }
        counts[6]++;
        int address = p.type == 3 ? p.address : 0;
        int[] blob = seals.blob(p.type, address, p.rights, pages[p.owner].ident, counts[6], p.words);
        System.arraycopy(blob, 0, buffer, 0, 48);
        v.words[2 * slot + 1] = counts[6];
        pages[page] = new Leaf();
        return 0;
    }

    int reload(int page, int enclave, int versions, int slot) {
        Leaf p = get(page, 0);
        Leaf e = get(enclave, 1);
        Leaf v = get(versions, 4);
        if (p == null || e == null || v == null) {
            return 1;
        }
        if (e.state != 1) {
            return 2;
        }
        if (slot < 0 || slot > 15) {
            return 3;
        }
        if (!Arrays.equals(seals.tag(buffer), Arrays.copyOfRange(buffer, 40, 48))) {
            counts[8]++;
            return 4;
        }
        boolean none = buffer[4] == 0 && buffer[5] == 0;
        if (buffer[3] != e.ident || none || buffer[4] != v.words[2 * slot]
                || buffer[5] != v.words[2 * slot + 1]) {
            counts[9]++;
            return 5;
        }
        counts[7]++;
        p.type = buffer[0] == 2 ? 2 : 3;
        p.owner = enclave;
        if (p.type == 3) {
            p.address = buffer[1];
            p.rights = buffer[2];
        }
        int[] stream = seals.stream(buffer[4], buffer[5]);
        for (int k = 0; k < 32; k++) {
            p.words[k] = buffer[8 + k] ^ stream[k];
        }
        v.words[2 * slot] = 0;
        v.words[2 * slot + 1] = 0;
        return 0;
    }

    int page(int page, int what) {
        if (page < 0 || page >= pages.length || what < 0 || what > 7) {
            return -1;
        }
        Leaf p = pages[page];
        int saved = p.type == 2 && p.words[1] != 0 ? 1 : 0;
        return new int[] {p.type, p.owner, p.address, p.rights, p.ident, p.state, owned(page), saved}[what];
    }

    int measure(int enclave, int k) {
        Leaf e = get(enclave, 1);
        return e == null || k < 0 || k > 7 ? 0 : e.measure[k];
    }

    long slot(int versions, int slot) {
        Leaf v = get(versions, 4);
        if (v == null || slot < 0 || slot > 15) {
            return 0;
        }
        return v.words[2 * slot] * 4294967296L + (v.words[2 * slot + 1] & 0xFFFFFFFFL);
    }

    int count(int what) {
        if (what < 0 || what > 10) {
            return -1;
        }
        if (what == 0) {
            return pages.length;
        }
        if (what > 5) {
            return counts[what];
        }
        int many = 0;
        for (Leaf p : pages) {
            if (p.type == what - 1) {
                many++;
            }
        }
        return many;
    }
}
