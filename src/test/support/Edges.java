import java.util.Map;
import java.util.Set;
import java.util.TreeMap;
import java.util.TreeSet;

/** Checks one sentence of the document after the other; what fails is told with its sentence. */
final class Edges {
    interface Call {
        long on(EnclaveMonitor x);
    }

    private static final Call NOTHING = x -> 0;

    private final Check check = new Check();
    private final Set<String> sentences = new TreeSet<>();
    private String sentence = "";

    /** What follows is a test of this sentence, and of none other. */
    void of(String text) {
        isTrue("a sentence is tested once: " + text, sentences.add(text));
        sentence = text;
    }

    void due(String call, long got, long want) {
        check.due("[" + sentence + "] " + call, got, want);
    }

    /** What is told of the latest RUN. */
    void told(String call, EnclaveMonitor x, int... want) {
        for (int k = 0; k < want.length; k++) {
            due(call + ", " + State.told(k), x.told(k), want[k]);
        }
    }

    void isTrue(String claim, boolean holds) {
        due(claim, holds ? 1 : 0, 1);
    }

    void end(String name) {
        check.end(name + ", " + sentences.size() + " sentences");
    }

    /** In the House the call answers why, and nothing that can be asked or sealed is changed by it. */
    void refused(String call, Call made, long why) {
        refusedAfter(NOTHING, call, made, why);
    }

    void refusedAfter(Call before, String call, Call made, long why) {
        refusedButFor(before, call, made, why, new Changes());
    }

    /** The call is refused and changes what is named, a count, and nothing else. */
    void refusedButFor(Call before, String call, Call made, long why, Changes named) {
        changesAfter(before, call, made, why, named);
        Map<String, Long> was = State.hidden(houseAfter(before, NOTHING));
        Map<String, Long> is = State.hidden(houseAfter(before, made));
        compare(call, is, was);
    }

    /** In the House the call answers so, and changes what is named and nothing else. */
    void changes(String call, Call made, long answer, Changes named) {
        changesAfter(NOTHING, call, made, answer, named);
    }

    void changesAfter(Call before, String call, Call made, long answer, Changes named) {
        EnclaveMonitor x = houseAfter(before, NOTHING);
        due(call, made.on(x), answer);
        Map<String, Long> want = State.shown(houseAfter(before, NOTHING));
        want.putAll(named.due);
        compare(call, State.shown(x), want);
    }

    private static EnclaveMonitor houseAfter(Call before, Call made) {
        EnclaveMonitor x = House.make();
        before.on(x);
        made.on(x);
        return x;
    }

    /** What was not asked on one side is 0 there: it is a MEASURE or a SLOT of another page. */
    private void compare(String call, Map<String, Long> got, Map<String, Long> want) {
        Map<String, Long> all = new TreeMap<>(got);
        all.putAll(want);
        for (String asked : all.keySet()) {
            due(call + ", then " + asked, got.getOrDefault(asked, 0L), want.getOrDefault(asked, 0L));
        }
    }
}
