/**
 * One monitor with a page of every TYPE, enclaves of every STATE, a SAVED THREAD, and a BLOB in
 * BUFFER that can be taken back. Every test has it made anew.
 */
final class House {
    static final long SEED = 0x0123456789ABCDEFL;
    static final int SIZE = 14;

    /** A FINAL enclave and its pages. */
    static final int FINAL = 0;
    static final int IDLE = 1;
    static final int SAVED = 2;
    static final int CODE = 3;
    static final int VERSIONS = 4;
    /** An OPEN enclave and its pages. */
    static final int OPEN = 5;
    static final int OPEN_THREAD = 6;
    static final int OPEN_DATA = 7;
    static final int OPEN_ADDRESS = 4;
    /** A STOPPED enclave and its pages. */
    static final int STOPPED = 8;
    static final int STOPPED_THREAD = 9;
    static final int STOPPED_DATA = 10;
    static final int FREE = 11;
    /** A FINAL enclave that owns no page. */
    static final int BARE = 12;
    static final int LAST_FREE = 13;

    /** The SLOT of the page that is let go, its ADDRESS, RIGHTS and words. */
    static final int SLOT = 2;
    static final int GONE_ADDRESS = 9;
    static final int GONE_RIGHTS = 5;

    /** Numbers that no page has. */
    static final int[] NO_PAGES = {-1, SIZE, Integer.MIN_VALUE, Integer.MAX_VALUE};

    private House() {
    }

    static EnclaveMonitor make() {
        EnclaveMonitor x = new EnclaveMonitor(SIZE, SEED);
        x.create(FINAL);
        x.create(OPEN);
        x.create(STOPPED);
        x.create(BARE);
        Code.poke(x, Code.word(Code.ADD, 2, 0, 1), Code.wide(Code.MOVE, 3, 7), Code.end(2));
        x.data(FINAL, CODE, 0, 7);
        x.thread(FINAL, IDLE, 0);
        x.thread(FINAL, SAVED, 1);
        x.data(FINAL, FREE, GONE_ADDRESS, GONE_RIGHTS);
        x.thread(OPEN, OPEN_THREAD, 33);
        x.data(OPEN, OPEN_DATA, OPEN_ADDRESS, 3);
        x.thread(STOPPED, STOPPED_THREAD, 2);
        x.data(STOPPED, STOPPED_DATA, 5, 6);
        x.finalise(FINAL);
        x.finalise(BARE);
        x.stop(STOPPED);
        x.versions(VERSIONS);
        x.enter(SAVED, 5, 6, 1);
        x.evict(FREE, VERSIONS, SLOT);
        for (int k = 48; k < 64; k++) {
            x.poke(k, 31 * k);
        }
        return x;
    }

    static int[] goneWords() {
        return Code.page(Code.word(Code.ADD, 2, 0, 1), Code.wide(Code.MOVE, 3, 7), Code.end(2));
    }
}
