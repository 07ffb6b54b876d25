/**
 * Keeps enclaves apart from the system that calls it. The document's promises say what each call
 * of the face answers; the words in capitals are the document's.
 */
public final class EnclaveMonitor {
    public static final int NONE = -1;

    private static final int LEAST_PAGES = 8;
    private static final int MOST_PAGES = 40;
    private static final int USUAL_PAGES = 16;
    private static final int PAGE_WORDS = 32;
    private static final int BUFFER_WORDS = 64;
    private static final int DIGEST_WORDS = 8;
    private static final int SLOTS = 16;
    private static final int ADDRESSES = 32;
    private static final int WORD_ADDRESSES = ADDRESSES * PAGE_WORDS;
    private static final int MOST_STEPS = 5000;

    private static final int FREE = 0;
    private static final int ENCLAVE = 1;
    private static final int THREAD = 2;
    private static final int DATA = 3;
    private static final int VERSIONS = 4;

    private static final int OPEN = 0;
    private static final int FINAL = 1;
    private static final int STOPPED = 2;

    private static final int READ = 1;
    private static final int WRITE = 2;
    private static final int RUN = 4;
    private static final int ALL_RIGHTS = READ | WRITE | RUN;

    private static final int DONE = 0;
    private static final int WRONG_PAGE = 1;
    private static final int WRONG_STATE = 2;
    private static final int WRONG_PLACE = 3;
    private static final int WRONG_TAG = 4;
    private static final int WRONG_VERSION = 5;
    private static final int WRONG_STEPS = 6;

    private static final int THREAD_ENTRY = 0;
    private static final int THREAD_SAVED = 1;
    private static final int THREAD_PC = 2;
    private static final int THREAD_R0 = 3;
    private static final int REGISTERS = 8;

    private static final int BLOB_TYPE = 0;
    private static final int BLOB_ADDRESS = 1;
    private static final int BLOB_RIGHTS = 2;
    private static final int BLOB_IDENT = 3;
    private static final int BLOB_UPPER = 4;
    private static final int BLOB_LOWER = 5;
    private static final int BLOB_WORDS = 8;
    private static final int BLOB_TAG = 40;

    private final Page[] pages;
    private final int[] shared = new int[BUFFER_WORDS];
    private final int[] dueTag = new int[DIGEST_WORDS];
    private final Hash hash = new Hash();
    private final Sealer sealer;
    private final Runner runner = new Runner();
    private long lettingGoes;
    private int takingsBack;
    private int wrongTags;
    private int wrongVersions;
    private int enclavesCreated;

    public EnclaveMonitor(int pages, long seed) {
        int size = pages >= LEAST_PAGES && pages <= MOST_PAGES ? pages : USUAL_PAGES;
        this.pages = new Page[size];
        for (int k = 0; k < size; k++) {
            this.pages[k] = new Page();
        }
        sealer = new Sealer(seed);
    }

    public void poke(int k, int v) throws IndexOutOfBoundsException {
        if (!isWithin(k, BUFFER_WORDS)) {
            throw new IndexOutOfBoundsException("BUFFER has words 0 to 63");
        }
        shared[k] = v;
    }

    public int buffer(int k) throws IndexOutOfBoundsException {
        if (!isWithin(k, BUFFER_WORDS)) {
            throw new IndexOutOfBoundsException("BUFFER has words 0 to 63");
        }
        return shared[k];
    }

    public int create(int page) {
        if (!isOfType(page, FREE)) {
            return WRONG_PAGE;
        }
        enclavesCreated++;
        pages[page].type = ENCLAVE;
        pages[page].state = OPEN;
        pages[page].ident = enclavesCreated;
        return DONE;
    }

    public int thread(int enclave, int page, int entry) {
        int why = whyNotAdded(enclave, page);
        if (why != DONE) {
            return why;
        }
        if (!isWithin(entry, WORD_ADDRESSES)) {
            return WRONG_PLACE;
        }
        Page added = pages[page];
        added.own(THREAD, enclave);
        added.words[THREAD_ENTRY] = entry;
        extendMeasure(pages[enclave], added, entry);
        return DONE;
    }

    public int data(int enclave, int page, int address, int rights) {
        int why = whyNotAdded(enclave, page);
        if (why != DONE) {
            return why;
        }
        if (!isWithin(address, ADDRESSES) || rights < 0 || rights > ALL_RIGHTS
                || hasAddress(enclave, address)) {
            return WRONG_PLACE;
        }
        Page added = pages[page];
        added.own(DATA, enclave);
        added.address = address;
        added.rights = rights;
        System.arraycopy(shared, 0, added.words, 0, PAGE_WORDS);
        extendMeasure(pages[enclave], added, address);
        return DONE;
    }

    public int versions(int page) {
        if (!isOfType(page, FREE)) {
            return WRONG_PAGE;
        }
        pages[page].type = VERSIONS;
        return DONE;
    }

    public int finalise(int enclave) {
        if (!isOfType(enclave, ENCLAVE)) {
            return WRONG_PAGE;
        }
        if (stateOf(enclave) != OPEN) {
            return WRONG_STATE;
        }
        Page ended = pages[enclave];
        ended.state = FINAL;
        hash.begin();
        hash.addAll(ended.measured, DIGEST_WORDS);
        hash.add(-1);
        hash.finish(ended.measured, 0);
        return DONE;
    }

    public int stop(int enclave) {
        if (!isOfType(enclave, ENCLAVE)) {
            return WRONG_PAGE;
        }
        if (stateOf(enclave) == STOPPED) {
            return WRONG_STATE;
        }
        pages[enclave].state = STOPPED;
        return DONE;
    }

    public int remove(int page) {
        if (!isWithin(page, pages.length) || isOfType(page, FREE)) {
            return WRONG_PAGE;
        }
        if (!isRemovable(page)) {
            return WRONG_STATE;
        }
        pages[page].clear();
        return DONE;
    }

    public int enter(int page, int a, int b, int steps) {
        int why = whyNotRun(page, false, steps);
        if (why != DONE) {
            return -why;
        }
        int[] words = pages[page].words;
        words[THREAD_PC] = words[THREAD_ENTRY];
        for (int k = 0; k < REGISTERS; k++) {
            words[THREAD_R0 + k] = 0;
        }
        words[THREAD_R0] = a;
        words[THREAD_R0 + 1] = b;
        return runThread(page, steps);
    }

    public int resume(int page, int steps) {
        int why = whyNotRun(page, true, steps);
        if (why != DONE) {
            return -why;
        }
        return runThread(page, steps);
    }

    public int told(int what) {
        switch (what) {
            case 0:
                return runner.outcome;
            case 1:
                return runner.result;
            case 2:
                return runner.faulty;
            case 3:
                return runner.made;
            default:
                return NONE;
        }
    }

    public int evict(int page, int versions, int slot) {
        int why = whyNotEvicted(page, versions, slot);
        if (why != DONE) {
            return why;
        }
        lettingGoes++;
        writeBlob(pages[page], lettingGoes);
        pages[versions].setNumber(slot, lettingGoes);
        pages[page].clear();
        return DONE;
    }

    public int reload(int page, int enclave, int versions, int slot) {
        int why = whyNotReloaded(page, enclave, versions, slot);
        if (why == WRONG_TAG) {
            wrongTags++;
        }
        if (why == WRONG_VERSION) {
            wrongVersions++;
        }
        if (why != DONE) {
            return why;
        }
        takingsBack++;
        readBlob(pages[page], enclave);
        pages[versions].setNumber(slot, 0L);
        return DONE;
    }

    public int page(int page, int what) {
        if (!isWithin(page, pages.length)) {
            return NONE;
        }
        Page asked = pages[page];
        switch (what) {
            case 0:
                return asked.type;
            case 1:
                return asked.owner;
            case 2:
                return asked.type == DATA ? asked.address : NONE;
            case 3:
                return asked.rights;
            case 4:
                return asked.ident;
            case 5:
                return stateOf(page);
            case 6:
                return ownedBy(page);
            case 7:
                return asked.isSaved() ? 1 : 0;
            default:
                return NONE;
        }
    }

    public int measure(int enclave, int k) {
        if (!isOfType(enclave, ENCLAVE) || !isWithin(k, DIGEST_WORDS)) {
            return 0;
        }
        return pages[enclave].measured[k];
    }

    public long slot(int versions, int slot) {
        if (!isOfType(versions, VERSIONS) || !isWithin(slot, SLOTS)) {
            return 0L;
        }
        return pages[versions].numberIn(slot);
    }

    public int count(int what) {
        if (what >= 1 && what <= 1 + VERSIONS) {
            return pagesOfType(what - 1);
        }
        switch (what) {
            case 0:
                return pages.length;
            case 6:
                return (int) lettingGoes;
            case 7:
                return takingsBack;
            case 8:
                return wrongTags;
            case 9:
                return wrongVersions;
            case 10:
                return enclavesCreated;
            default:
                return NONE;
        }
    }

    private static boolean isWithin(int k, int bound) {
        return k >= 0 && k < bound;
    }

    private boolean isOfType(int page, int type) {
        return isWithin(page, pages.length) && pages[page].type == type;
    }

    private int stateOf(int enclave) {
        return isOfType(enclave, ENCLAVE) ? pages[enclave].state : NONE;
    }

    private int pagesOfType(int type) {
        int found = 0;
        for (int k = 0; k < pages.length; k++) {
            if (pages[k].type == type) {
                found++;
            }
        }
        return found;
    }

    private int ownedBy(int enclave) {
        int found = 0;
        for (int k = 0; k < pages.length; k++) {
            if (pages[k].owner == enclave) {
                found++;
            }
        }
        return found;
    }

    private boolean hasAddress(int enclave, int address) {
        for (int k = 0; k < pages.length; k++) {
            if (pages[k].isDataOf(enclave) && pages[k].address == address) {
                return true;
            }
        }
        return false;
    }

    private int whyNotAdded(int enclave, int page) {
        if (!isOfType(enclave, ENCLAVE) || !isOfType(page, FREE)) {
            return WRONG_PAGE;
        }
        return stateOf(enclave) == OPEN ? DONE : WRONG_STATE;
    }

    private void extendMeasure(Page enclave, Page added, int place) {
        hash.begin();
        hash.addAll(enclave.measured, DIGEST_WORDS);
        hash.add(added.type);
        hash.add(place);
        hash.add(added.rights);
        hash.add(0);
        hash.addAll(added.words, PAGE_WORDS);
        hash.finish(enclave.measured, 0);
    }

    private boolean isRemovable(int page) {
        int type = pages[page].type;
        if (type == ENCLAVE) {
            return stateOf(page) == STOPPED && ownedBy(page) == 0;
        }
        // A VERSIONS page has no OWNER that could forbid it.
        return type == VERSIONS || stateOf(pages[page].owner) == STOPPED;
    }

    private int whyNotRun(int page, boolean saved, int steps) {
        if (!isOfType(page, THREAD)) {
            return WRONG_PAGE;
        }
        Page asked = pages[page];
        if (stateOf(asked.owner) != FINAL || asked.isSaved() != saved) {
            return WRONG_STATE;
        }
        return steps < 0 || steps > MOST_STEPS ? WRONG_STEPS : DONE;
    }

    /** whyNotRun has looked at the page and its OWNER. */
    private int runThread(int page, int steps) {
        int owner = pages[page].owner;
        runner.mapSpace(pages, owner);
        runner.go(pages[page].words, pages[owner].measured, steps);
        return runner.outcome;
    }

    private int whyNotEvicted(int page, int versions, int slot) {
        boolean goes = isOfType(page, THREAD) || isOfType(page, DATA);
        if (!goes || !isOfType(versions, VERSIONS)) {
            return WRONG_PAGE;
        }
        if (stateOf(pages[page].owner) != FINAL) {
            return WRONG_STATE;
        }
        boolean fits = isWithin(slot, SLOTS) && pages[versions].numberIn(slot) == 0L;
        return fits ? DONE : WRONG_PLACE;
    }

    private int whyNotReloaded(int page, int enclave, int versions, int slot) {
        if (!isOfType(page, FREE) || !isOfType(enclave, ENCLAVE)
                || !isOfType(versions, VERSIONS)) {
            return WRONG_PAGE;
        }
        if (stateOf(enclave) != FINAL) {
            return WRONG_STATE;
        }
        if (!isWithin(slot, SLOTS)) {
            return WRONG_PLACE;
        }
        if (!isTagged()) {
            return WRONG_TAG;
        }
        long number = Page.join(shared[BLOB_UPPER], shared[BLOB_LOWER]);
        boolean fresh = number != 0L && number == pages[versions].numberIn(slot);
        return fresh && shared[BLOB_IDENT] == pages[enclave].ident ? DONE : WRONG_VERSION;
    }

    private boolean isTagged() {
        sealer.sign(shared, BLOB_TAG, dueTag, 0);
        // All words are looked at, so that the time taken tells nothing of the tag that is due.
        int differs = 0;
        for (int k = 0; k < DIGEST_WORDS; k++) {
            differs |= dueTag[k] ^ shared[BLOB_TAG + k];
        }
        return differs == 0;
    }

    /** whyNotEvicted has looked at the page and its OWNER. */
    private void writeBlob(Page gone, long number) {
        shared[BLOB_TYPE] = gone.type;
        shared[BLOB_ADDRESS] = gone.address;
        shared[BLOB_RIGHTS] = gone.rights;
        shared[BLOB_IDENT] = pages[gone.owner].ident;
        shared[BLOB_UPPER] = (int) (number >>> 32);
        shared[BLOB_LOWER] = (int) number;
        shared[BLOB_LOWER + 1] = 0;
        shared[BLOB_LOWER + 2] = 0;
        System.arraycopy(gone.words, 0, shared, BLOB_WORDS, PAGE_WORDS);
        sealer.cover(shared, BLOB_WORDS, shared[BLOB_UPPER], shared[BLOB_LOWER]);
        sealer.sign(shared, BLOB_TAG, shared, BLOB_TAG);
    }

    private void readBlob(Page taken, int enclave) {
        if (shared[BLOB_TYPE] == THREAD) {
            taken.own(THREAD, enclave);
        } else {
            taken.own(DATA, enclave);
            taken.address = shared[BLOB_ADDRESS];
            taken.rights = shared[BLOB_RIGHTS];
        }
        System.arraycopy(shared, BLOB_WORDS, taken.words, 0, PAGE_WORDS);
        sealer.cover(taken.words, 0, shared[BLOB_UPPER], shared[BLOB_LOWER]);
    }

    /** Fields that a page's TYPE does not have keep what a FREE page has there. */
    private static final class Page {
        final int[] words = new int[PAGE_WORDS];
        final int[] measured = new int[DIGEST_WORDS];
        int type = FREE;
        int owner = NONE;
        int address;
        int rights;
        int ident;
        int state;

        void own(int newType, int enclave) {
            type = newType;
            owner = enclave;
        }

        void clear() {
            type = FREE;
            owner = NONE;
            address = 0;
            rights = 0;
            ident = 0;
            state = OPEN;
            for (int k = 0; k < PAGE_WORDS; k++) {
                words[k] = 0;
            }
            for (int k = 0; k < DIGEST_WORDS; k++) {
                measured[k] = 0;
            }
        }

        boolean isSaved() {
            return type == THREAD && words[THREAD_SAVED] != 0;
        }

        boolean isDataOf(int enclave) {
            return type == DATA && owner == enclave;
        }

        long numberIn(int place) {
            return isWithin(place, SLOTS) ? join(words[2 * place], words[2 * place + 1]) : 0L;
        }

        void setNumber(int place, long number) {
            if (isWithin(place, SLOTS)) {
                words[2 * place] = (int) (number >>> 32);
                words[2 * place + 1] = (int) number;
            }
        }

        static long join(int upper, int lower) {
            return ((long) upper << 32) | (lower & 0xFFFFFFFFL);
        }
    }

    /** Makes a THREAD's steps in the THREAD's own words, so that it is saved at every step. */
    private static final class Runner {
        private static final int GOES_ON = -1;
        private static final int ENDED = 0;
        private static final int FAULTED = 1;
        private static final int OUT_OF_STEPS = 2;
        private static final int ILLEGAL = 3;

        final Page[] space = new Page[ADDRESSES];
        int outcome = NONE;
        int result = NONE;
        int faulty = NONE;
        int made = NONE;

        void mapSpace(Page[] pages, int enclave) {
            for (int k = 0; k < ADDRESSES; k++) {
                space[k] = null;
            }
            // From the last one down, so that of several with one ADDRESS the first stays.
            for (int k = pages.length - 1; k >= 0; k--) {
                if (pages[k].isDataOf(enclave) && isWithin(pages[k].address, ADDRESSES)) {
                    space[pages[k].address] = pages[k];
                }
            }
        }

        void go(int[] context, int[] measured, int steps) {
            result = 0;
            faulty = NONE;
            made = 0;
            int how = GOES_ON;
            for (int k = 0; k < steps && how == GOES_ON; k++) {
                how = step(context, measured);
                if (how == GOES_ON || how == ENDED) {
                    made++;
                }
            }
            outcome = how == GOES_ON ? OUT_OF_STEPS : how;
            context[THREAD_SAVED] = 1;
            if (outcome == ENDED) {
                forget(context);
            }
        }

        private void forget(int[] context) {
            for (int k = THREAD_SAVED; k < THREAD_R0 + REGISTERS; k++) {
                context[k] = 0;
            }
        }

        private int step(int[] context, int[] measured) {
            int pc = context[THREAD_PC];
            Page code = reach(pc, RUN);
            if (code == null) {
                return FAULTED;
            }
            int word = code.words[pc % PAGE_WORDS];
            int a = register(word >>> 16);
            int b = register(word >>> 8);
            int c = register(word);
            int next = pc + 1;
            switch (word >>> 24) {
                case 0:
                    result = context[a];
                    return ENDED;
                case 1:
                    context[a] = (short) word;
                    break;
                case 2:
                    context[a] = context[b] + context[c];
                    break;
                case 3:
                    context[a] = context[b] ^ context[c];
                    break;
                case 4:
                    context[a] = context[b] * context[c];
                    break;
                case 5:
                    if (!fetch(context, a, context[b] + (word & 255))) {
                        return FAULTED;
                    }
                    break;
                case 6:
                    if (!store(context[a], context[b] + (word & 255))) {
                        return FAULTED;
                    }
                    break;
                case 7:
                    next = context[a] != 0 ? pc + (short) word : next;
                    break;
                case 8:
                    context[a] = context[b] >>> (word & 31);
                    break;
                case 9:
                    context[a] = measured[word & 7];
                    break;
                default:
                    return ILLEGAL;
            }
            context[THREAD_PC] = next;
            return GOES_ON;
        }

        private static int register(int bits) {
            return THREAD_R0 + (bits & 7);
        }

        private boolean fetch(int[] context, int a, int from) {
            Page source = reach(from, READ);
            if (source == null) {
                return false;
            }
            context[a] = source.words[from % PAGE_WORDS];
            return true;
        }

        private boolean store(int value, int to) {
            Page target = reach(to, WRITE);
            if (target == null) {
                return false;
            }
            target.words[to % PAGE_WORDS] = value;
            return true;
        }

        /** Null is a FAULT, whose page is noted. */
        private Page reach(int address, int right) {
            if (!isWithin(address, WORD_ADDRESSES)) {
                return null;
            }
            Page meant = space[address / PAGE_WORDS];
            if (meant == null || (meant.rights & right) == 0) {
                faulty = address / PAGE_WORDS;
                return null;
            }
            return meant;
        }
    }

    /** KEY's stream and MARK's tags. */
    private static final class Sealer {
        private static final int[] CONSTANTS = {0x61707865, 0x3320646E, 0x79622D32, 0x6B206574};
        private static final int BLOCK_WORDS = 16;
        private static final int DOUBLE_ROUNDS = 10;
        private static final int INNER_PAD = 0x36363636;
        private static final int OUTER_PAD = 0x5C5C5C5C;

        private final Hash hash = new Hash();
        private final int[] key = new int[DIGEST_WORDS];
        private final int[] mark = new int[DIGEST_WORDS];
        private final int[] inner = new int[DIGEST_WORDS];
        private final int[] start = new int[BLOCK_WORDS];
        private final int[] block = new int[BLOCK_WORDS];

        Sealer(long seed) {
            derive(seed, 1, key);
            derive(seed, 2, mark);
        }

        private void derive(long seed, int purpose, int[] target) {
            hash.begin();
            hash.add((int) (seed >>> 32));
            hash.add((int) seed);
            hash.add(purpose);
            hash.finish(target, 0);
        }

        /** HMAC-SHA-256 of the first words of a message. */
        void sign(int[] message, int length, int[] target, int at) {
            beginWithMark(INNER_PAD);
            hash.addAll(message, length);
            hash.finish(inner, 0);
            beginWithMark(OUTER_PAD);
            hash.addAll(inner, DIGEST_WORDS);
            hash.finish(target, at);
        }

        private void beginWithMark(int pad) {
            hash.begin();
            for (int k = 0; k < BLOCK_WORDS; k++) {
                hash.add(k < DIGEST_WORDS ? mark[k] ^ pad : pad);
            }
        }

        /** Covers a page's words that begin at a place, or uncovers them. */
        void cover(int[] words, int at, int upper, int lower) {
            for (int half = 0; half < PAGE_WORDS / BLOCK_WORDS; half++) {
                makeBlock(half + 1, upper, lower);
                int from = at + half * BLOCK_WORDS;
                for (int k = 0; k < BLOCK_WORDS; k++) {
                    words[from + k] ^= block[k];
                }
            }
        }

        private void makeBlock(int counter, int upper, int lower) {
            System.arraycopy(CONSTANTS, 0, start, 0, 4);
            System.arraycopy(key, 0, start, 4, DIGEST_WORDS);
            start[12] = counter;
            start[13] = 0;
            start[14] = upper;
            start[15] = lower;
            System.arraycopy(start, 0, block, 0, BLOCK_WORDS);
            for (int k = 0; k < DOUBLE_ROUNDS; k++) {
                mixQuarter(0, 4, 8, 12);
                mixQuarter(1, 5, 9, 13);
                mixQuarter(2, 6, 10, 14);
                mixQuarter(3, 7, 11, 15);
                mixQuarter(0, 5, 10, 15);
                mixQuarter(1, 6, 11, 12);
                mixQuarter(2, 7, 8, 13);
                mixQuarter(3, 4, 9, 14);
            }
            for (int k = 0; k < BLOCK_WORDS; k++) {
                block[k] += start[k];
            }
        }

        private void mixQuarter(int a, int b, int c, int d) {
            block[a] += block[b];
            block[d] = turnLeft(block[d] ^ block[a], 16);
            block[c] += block[d];
            block[b] = turnLeft(block[b] ^ block[c], 12);
            block[a] += block[b];
            block[d] = turnLeft(block[d] ^ block[a], 8);
            block[c] += block[d];
            block[b] = turnLeft(block[b] ^ block[c], 7);
        }

        private static int turnLeft(int word, int bits) {
            return (word << bits) | (word >>> (32 - bits));
        }
    }

    /** SHA-256 of messages of whole words, in rows that are used again for every message. */
    private static final class Hash {
        private static final int BLOCK_WORDS = 16;
        private static final int ROUNDS = 64;
        private static final int ROOM = 64;
        private static final int PADDING = 3;
        private static final int[] FIRST_STATE = {
            0x6A09E667, 0xBB67AE85, 0x3C6EF372, 0xA54FF53A,
            0x510E527F, 0x9B05688C, 0x1F83D9AB, 0x5BE0CD19
        };
        private static final int[] ROUND_WORDS = {
            0x428A2F98, 0x71374491, 0xB5C0FBCF, 0xE9B5DBA5,
            0x3956C25B, 0x59F111F1, 0x923F82A4, 0xAB1C5ED5,
            0xD807AA98, 0x12835B01, 0x243185BE, 0x550C7DC3,
            0x72BE5D74, 0x80DEB1FE, 0x9BDC06A7, 0xC19BF174,
            0xE49B69C1, 0xEFBE4786, 0x0FC19DC6, 0x240CA1CC,
            0x2DE92C6F, 0x4A7484AA, 0x5CB0A9DC, 0x76F988DA,
            0x983E5152, 0xA831C66D, 0xB00327C8, 0xBF597FC7,
            0xC6E00BF3, 0xD5A79147, 0x06CA6351, 0x14292967,
            0x27B70A85, 0x2E1B2138, 0x4D2C6DFC, 0x53380D13,
            0x650A7354, 0x766A0ABB, 0x81C2C92E, 0x92722C85,
            0xA2BFE8A1, 0xA81A664B, 0xC24B8B70, 0xC76C51A3,
            0xD192E819, 0xD6990624, 0xF40E3585, 0x106AA070,
            0x19A4C116, 0x1E376C08, 0x2748774C, 0x34B0BCB5,
            0x391C0CB3, 0x4ED8AA4A, 0x5B9CCA4F, 0x682E6FF3,
            0x748F82EE, 0x78A5636F, 0x84C87814, 0x8CC70208,
            0x90BEFFFA, 0xA4506CEB, 0xBEF9A3F7, 0xC67178F2
        };

        private final int[] message = new int[ROOM];
        private final int[] schedule = new int[ROUNDS];
        private final int[] state = new int[DIGEST_WORDS];
        private int length;

        void begin() {
            length = 0;
        }

        void add(int word) {
            // The longest message, HMAC's inner one, has 56 words: none is ever left out.
            if (length < ROOM - PADDING) {
                message[length] = word;
                length++;
            }
        }

        void addAll(int[] words, int many) {
            for (int k = 0; k < many; k++) {
                add(words[k]);
            }
        }

        void finish(int[] target, int at) {
            int padded = padMessage();
            System.arraycopy(FIRST_STATE, 0, state, 0, DIGEST_WORDS);
            for (int from = 0; from < padded; from += BLOCK_WORDS) {
                fillSchedule(from);
                compress();
            }
            System.arraycopy(state, 0, target, at, DIGEST_WORDS);
        }

        private int padMessage() {
            int padded = (length + PADDING + BLOCK_WORDS - 1) / BLOCK_WORDS * BLOCK_WORDS;
            for (int k = length; k < padded; k++) {
                message[k] = 0;
            }
            message[length] = 0x80000000;
            message[padded - 1] = length * 32;
            return padded;
        }

        private void fillSchedule(int from) {
            System.arraycopy(message, from, schedule, 0, BLOCK_WORDS);
            for (int k = BLOCK_WORDS; k < ROUNDS; k++) {
                int x = schedule[k - 15];
                int y = schedule[k - 2];
                int low = turnRight(x, 7) ^ turnRight(x, 18) ^ (x >>> 3);
                int high = turnRight(y, 17) ^ turnRight(y, 19) ^ (y >>> 10);
                schedule[k] = schedule[k - 16] + low + schedule[k - 7] + high;
            }
        }

        private void compress() {
            int a = state[0];
            int b = state[1];
            int c = state[2];
            int d = state[3];
            int e = state[4];
            int f = state[5];
            int g = state[6];
            int h = state[7];
            for (int k = 0; k < ROUNDS; k++) {
                int high = turnRight(e, 6) ^ turnRight(e, 11) ^ turnRight(e, 25);
                int choice = (e & f) ^ (~e & g);
                int one = h + high + choice + ROUND_WORDS[k] + schedule[k];
                int low = turnRight(a, 2) ^ turnRight(a, 13) ^ turnRight(a, 22);
                int majority = (a & b) ^ (a & c) ^ (b & c);
                h = g;
                g = f;
                f = e;
                e = d + one;
                d = c;
                c = b;
                b = a;
                a = one + low + majority;
            }
            state[0] += a;
            state[1] += b;
            state[2] += c;
            state[3] += d;
            state[4] += e;
            state[5] += f;
            state[6] += g;
            state[7] += h;
        }

        private static int turnRight(int word, int bits) {
            return (word >>> bits) | (word << (32 - bits));
        }
    }
}
