import java.util.ArrayList;
import java.util.List;

/**
 * All that a desk tells of its state through its face, but told(7). Reading changes the desk, and a
 * desk is good for 512 calls, so it is read in parts, each of a desk of its own.
 */
final class Reading {
    static final int PARTS = 8;
    /** What Refusals' desk of some things must still be told behind the numbers that wait there. */
    static final int[] REST = {1, 4, 0, 2, 0, 1, 4, 0, 2, 0, 1, 4, 0, 2, 0, 0, 5, 0, 2, 2, 0, 0};
    private static final String[] WORDS = {"", "0", "1010", "01120"};

    private final SoundDesk x;
    private final List<Integer> answers = new ArrayList<>();

    private Reading(SoundDesk x) {
        this.x = x;
    }

    static List<Integer> now(SoundDesk x, int part) {
        Reading reading = new Reading(x);
        reading.read(part);
        return reading.answers;
    }

    static List<Integer> kept(SoundDesk x, int part) {
        Reading reading = new Reading(x);
        reading.note(x.again());
        reading.read(part);
        return reading.answers;
    }

    private void read(int part) {
        switch (part) {
            case 0: counts(); break;
            case 1: rows(); break;
            case 2: steps(0); break;
            case 3: steps(1); break;
            case 4: leading(); break;
            case 5: eachLawAlone(); break;
            case 6: meanings(); break;
            default: waiting(); break;
        }
    }

    private int note(int answer) {
        answers.add(answer);
        return answer;
    }

    private void counts() {
        for (int what = 0; what < 7; what++) {
            note(x.told(what));
        }
        result();
        note(x.cost(0));
        for (int sound = 0; sound < x.told(0); sound++) {
            for (int i = 0; i < 8; i++) {
                note(x.mark(sound, i));
                note(x.as(sound, i));
            }
        }
    }

    private void result() {
        int size = note(x.result(-1));
        for (int i = 0; i < size; i++) {
            note(x.result(i));
        }
    }

    private void rows() {
        for (int tongue = 0; tongue < x.told(2); tongue++) {
            int laws = note(x.laws(tongue));
            for (int k = 0; k < laws; k++) {
                note(x.lawAt(tongue, k));
            }
        }
    }

    private void steps(int first) {
        int laws = note(x.told(5));
        for (int k = first; k < laws; k += 2) {
            note(x.places(k));
            note(x.step(k));
            result();
        }
    }

    private void leading() {
        lead(x.told(2) - 1);
        for (int tongue = 0; tongue < x.told(2); tongue++) {
            for (String word : WORDS) {
                DeskChecks.sayWord(x, word);
                lead(tongue);
            }
        }
    }

    private void lead(int tongue) {
        note(x.led(tongue));
        result();
    }

    private void eachLawAlone() {
        int laws = x.told(1);
        for (int law = 0; law < laws && x.told(2) < 6; law++) {
            int tongue = note(x.tongue(-1));
            note(x.give(tongue, law));
            for (String word : WORDS) {
                DeskChecks.sayWord(x, word);
                lead(tongue);
            }
        }
    }

    private void meanings() {
        for (int meaning = 0; meaning < x.told(3); meaning++) {
            for (int tongue = 0; tongue < x.told(2); tongue++) {
                note(x.match(meaning, 0, tongue));
            }
            note(x.roots(meaning, 2));
            result();
            note(x.some(meaning, 2));
            result();
            note(x.form(meaning, 0));
        }
        note(x.explain(1));
    }

    private void waiting() {
        note(x.told(6));
        DeskChecks.puts(x, REST);
        note(x.check(1));
        note(x.told(6));
    }
}
