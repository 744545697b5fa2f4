import java.util.ArrayList;
import java.util.HashMap;
import java.util.List;
import java.util.Map;

/**
 * Tests of single sentences. Each begins with sentence(), which names the promise and the document's own words; all
 * answers behind it are told under that name. Every object is used for fewer than the document's 512 calls.
 */
final class Edges {
    /** Makes an object by the same calls each time, so that two of them are twins. */
    interface Make {
        SteepleWords object();
    }

    interface Act {
        long on(SteepleWords x);
    }

    static final Class<IndexOutOfBoundsException> BOUNDS = IndexOutOfBoundsException.class;
    static final Class<IllegalArgumentException> ARGUMENT = IllegalArgumentException.class;
    static final Class<IllegalStateException> STATE = IllegalStateException.class;

    private static final int SEEN_TEXT = 1;
    private static final int SEEN_SLOTS = 3;
    private static final int SEEN_HISTORY = 5;
    private static final int MOST_UNDONE = 15;

    private final Document document;
    private final Check check = new Check("EdgesTest");
    private final Map<Make, List<String>> seenUntouched = new HashMap<>();
    private final List<List<String>> told = new ArrayList<>();
    private String name = "";
    private int sentences;
    private int answers;

    Edges(Document document) {
        this.document = document;
        for (int promise = 0; promise <= Document.PROMISES; promise++) {
            told.add(new ArrayList<>());
        }
    }

    // ---- sentences

    void sentence(int promise, String words) {
        endSentence();
        sentences++;
        name = "promise " + promise + ", \"" + words + "\"";
        check.isTrue(name + " is what the document says", document.says(promise, words));
        told.get(promise).add(words);
    }

    private void endSentence() {
        check.isTrue(name + " has an answer", sentences == 0 || answers > 0);
        answers = 0;
    }

    /** Every promise has a sentence here, and so has each line of it that tells an exception or a range. */
    void end() {
        endSentence();
        for (int promise = 1; promise <= Document.PROMISES; promise++) {
            check.isTrue("promise " + promise + " has a test", !told.get(promise).isEmpty());
            for (String limit : document.limits(promise)) {
                check.isTrue("promise " + promise + ", \"" + limit + "\" has a test", isTold(promise, limit));
            }
        }
        System.out.println("EdgesTest: " + sentences + " sentences");
        check.end();
    }

    private boolean isTold(int promise, String limit) {
        for (String words : told.get(promise)) {
            if (limit.contains(words)) {
                return true;
            }
        }
        return false;
    }

    /** Each test by itself: what one of them throws is told under its sentence, and the next one goes on. */
    void each(Runnable... tests) {
        for (Runnable test : tests) {
            try {
                test.run();
            } catch (RuntimeException e) {
                isTrue("nothing throws here, but " + e, false);
            }
        }
    }

    // ---- answers

    void due(String what, long got, long want) {
        answers++;
        check.due(name + ": " + what, got, want);
    }

    void isTrue(String what, boolean holds) {
        answers++;
        check.isTrue(name + ": " + what, holds);
    }

    /** The call throws just this exception, and everything is as it was before the call. */
    void refused(Class<? extends RuntimeException> due, String what, Act call, Make... states) {
        for (Make state : states) {
            SteepleWords x = state.object();
            String got = Check.outcome(() -> call.on(x));
            isTrue(what + " throws " + due.getName() + " (it is " + got + ")", got.equals(due.getName()));
            changesNothing(what, call, state);
        }
    }

    /** The call answers this, and everything is as it was before the call. */
    void telling(String what, Act call, long want, Make... states) {
        for (Make state : states) {
            due(what, call.on(state.object()), want);
            changesNothing(what, call, state);
        }
    }

    private void changesNothing(String what, Act call, Make state) {
        isTrue(what + " leaves everything as it was", seen(state, call).equals(untouched(state)));
    }

    /** What the call answers and changes is free here, but for the text and the save slots. */
    void keepsTextAndSlots(String what, Act call, Make... states) {
        for (Make state : states) {
            List<String> before = untouched(state).subList(SEEN_TEXT, SEEN_HISTORY);
            isTrue(what + " keeps text and slots", seen(state, call).subList(SEEN_TEXT, SEEN_HISTORY).equals(before));
        }
    }

    /** The call may change the text, but nothing else. */
    void keepsAllButText(String what, Act call, Make... states) {
        for (Make state : states) {
            List<String> before = untouched(state);
            List<String> then = seen(state, call);
            isTrue(what + " keeps the state", then.get(0).equals(before.get(0)));
            isTrue(what + " keeps slots and remembered states",
                    then.subList(SEEN_SLOTS, then.size()).equals(before.subList(SEEN_SLOTS, before.size())));
        }
    }

    // ---- all that can be seen of an object: each look needs an object of its own, since it changes it

    private List<String> untouched(Make state) {
        return seenUntouched.computeIfAbsent(state, s -> seen(s, x -> 0));
    }

    /** First the state, then the text, the slots, and the remembered states. */
    private static List<String> seen(Make state, Act call) {
        List<String> seen = new ArrayList<>();
        seen.add(Telling.ofState(touched(state, call)));
        seen.add(seenText(touched(state, call)));
        seen.add(seenLonger(touched(state, call)));
        for (int slot = 0; slot <= 1; slot++) {
            seen.add(seenSlot(touched(state, call), slot));
        }
        for (int undone = 1; undone <= MOST_UNDONE; undone++) {
            seen.add(seenBefore(touched(state, call), undone));
        }
        return seen;
    }

    private static SteepleWords touched(Make state, Act call) {
        SteepleWords x = state.object();
        Check.outcome(() -> call.on(x));
        return x;
    }

    private static String seenText(SteepleWords x) {
        int error = x.errorPosition();
        String loaded = Check.outcome(x::load);
        String state = error == SteepleWords.NONE ? Telling.ofState(x) : "";
        return "error " + error + " load " + loaded + state + " length " + x.clearText();
    }

    private static String seenLonger(SteepleWords x) {
        String length = Check.outcome(() -> x.append('q'));
        return "append " + length + " error " + x.errorPosition();
    }

    private static String seenSlot(SteepleWords x, int slot) {
        String measures = Check.outcome(() -> x.restore(slot));
        return "restore " + measures + (measures.startsWith("=") ? Telling.ofState(x) : "");
    }

    private static String seenBefore(SteepleWords x, int undone) {
        StringBuilder seen = new StringBuilder("undo");
        for (int i = 0; i < undone; i++) {
            seen.append(' ').append(Check.outcome(x::undo));
        }
        return seen.append(Telling.ofState(x)).toString();
    }

    // ---- numbers

    /** The numbers just outside of a range, and the ones farthest from it. */
    static int[] outside(int least, int greatest) {
        return new int[] {least - 1, greatest + 1, Integer.MIN_VALUE, Integer.MAX_VALUE};
    }
}
