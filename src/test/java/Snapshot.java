import java.util.ArrayList;
import java.util.List;

/** All that the calls tell of a guard but for the bytes on its tape, so that two looks at it can be compared. */
final class Snapshot {
    /** Stands for an answer that is an IndexOutOfBoundsException. */
    private static final long NO_SUCH = 0x5A5A5A5A5A5A5A5AL;

    private final List<String> calls = new ArrayList<>();
    private final List<Long> answers = new ArrayList<>();

    private interface Question {
        long ask();
    }

    Snapshot(FilterGuard guard) {
        for (int what : new int[] {1, 2, 3, 4, 10, 11, 12, 13}) {
            note("count(" + what + ")", guard.count(what));
        }
        for (int what = 0; what < 8; what++) {
            note("about(" + what + ")", guard.about(what));
        }
        for (int what = 0; what < 3; what++) {
            note("ran(" + what + ")", guard.ran(what));
        }
        ofProgram(guard);
        for (int k = 0; isThere("packetAt(" + k + ")", packetAt(guard, k)); k++) {
            continue;
        }
        for (int k = 0; isThere("told(" + k + ")", told(guard, k)); k++) {
            continue;
        }
        for (int map = 0; map < guard.count(1); map++) {
            ofMap(guard, map);
        }
    }

    private void ofProgram(FilterGuard guard) {
        for (int slot = 0; slot < guard.about(6); slot++) {
            for (int what = 0; what < 5; what++) {
                note("fact(" + slot + ", " + what + ")", guard.fact(slot, what));
            }
        }
        for (int k = 0; isThere("code(" + k + ", false)", code(guard, k, false)); k++) {
            continue;
        }
        for (int k = 0; isThere("code(" + k + ", true)", code(guard, k, true)); k++) {
            continue;
        }
    }

    private void ofMap(FilterGuard guard, int map) {
        for (int i = 0; isThere("entry(" + map + ", " + i + ", 0)", entry(guard, map, i, 0)); i++) {
            for (int first = 100; first <= 200; first += 100) {
                int what = first;
                while (isThere("entry(" + map + ", " + i + ", " + what + ")", entry(guard, map, i, what))) {
                    what++;
                }
            }
        }
    }

    private static Question packetAt(FilterGuard guard, int k) {
        return () -> guard.packetAt(k);
    }

    private static Question told(FilterGuard guard, int k) {
        return () -> guard.told(k);
    }

    private static Question code(FilterGuard guard, int k, boolean isShorter) {
        return () -> guard.code(k, isShorter);
    }

    private static Question entry(FilterGuard guard, int map, int i, int what) {
        return () -> guard.entry(map, i, what);
    }

    private void note(String call, long answer) {
        calls.add(call);
        answers.add(answer);
    }

    private boolean isThere(String call, Question question) {
        long answer = NO_SUCH;
        boolean isThere = true;
        try {
            answer = question.ask();
        } catch (IndexOutOfBoundsException e) {
            isThere = false;
        }
        note(call, answer);
        return isThere;
    }

    /** Looks whether all that this one tells is told by a later one, too. */
    void stays(Checker check, String what, Snapshot later) {
        check.due(what + ": answers", later.calls.size(), calls.size());
        for (int i = 0; i < calls.size() && i < later.calls.size(); i++) {
            check.due(what + ": " + calls.get(i) + " is " + later.calls.get(i), calls.get(i).equals(later.calls.get(i)), true);
            check.due(what + ": then " + calls.get(i), later.answers.get(i), answers.get(i));
        }
    }
}
