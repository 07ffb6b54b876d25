import java.util.Map;
import java.util.TreeMap;

/** What a call is to change of all that can be asked: whatever is not named here stays. */
final class Changes {
    final Map<String, Long> due = new TreeMap<>();

    Changes set(String asked, long value) {
        due.put(asked, value);
        return this;
    }

    Changes page(int page, int... answers) {
        for (int k = 0; k < answers.length; k++) {
            set(State.page(page, k), answers[k]);
        }
        return this;
    }

    Changes free(int page) {
        return page(page, 0, -1, -1, 0, 0, -1, 0, 0);
    }

    Changes measure(int enclave, int[] words) {
        for (int k = 0; k < 8; k++) {
            set(State.measure(enclave, k), words[k]);
        }
        return this;
    }

    Changes buffer(int[] words) {
        for (int k = 0; k < words.length; k++) {
            set(State.buffer(k), words[k]);
        }
        return this;
    }

    Changes told(int how, int with, int page, int made) {
        set(State.told(0), how);
        set(State.told(1), with);
        set(State.told(2), page);
        return set(State.told(3), made);
    }
}
