/** What the tests share: the document's numbers, desks to begin with, and the count of what is wrong. */
abstract class DeskChecks {
    static final int BEYOND = -1, MISSING = -2, FULL = -3, KIND = -4, NONE = -5, LONG = -6;
    static final int SOUND = 0, VOWEL = 1, GLIDE = 2, STOP = 3, BREATH = 4;
    static final int PLAIN = 0, LEFTWARD = 1, RIGHTWARD = 2, ONCE = 3;
    static final int TARGET = 0, LEFT = 1, RIGHT = 2, EDGE = -1, ANY = -2;
    static final int BECOMES = 0, DROPPED = 1, FOLLOWED = 2;
    static final int LEAST = Integer.MIN_VALUE, GREATEST = Integer.MAX_VALUE;

    /** The promise that is asked about; 0 stands for the document's terms. */
    static int promise = 0;
    static String sentence = "";
    private static int asked = 0;
    private static int wrong = 0;

    static void due(String what, int want, int got) {
        hold(want == got, what + " answered " + got + ", due is " + want);
    }

    static void hold(boolean holds, String complaint) {
        asked++;
        if (!holds) {
            wrong++;
            String quote = sentence.isEmpty() ? "" : ", '" + sentence + "'";
            System.out.println("promise " + promise + quote + ": " + complaint);
        }
    }

    static void finish(String name) {
        System.out.println(name + ": " + asked + " answers asked, " + wrong + " wrong");
        if (wrong != 0) {
            System.exit(1);
        }
    }

    // ---- desks to begin with

    /** So many sounds; sound i alone has mark i as yes, all others as no. */
    static SoundDesk sounds(int count) {
        SoundDesk x = new SoundDesk();
        for (int i = 0; i < count; i++) {
            x.sound(SOUND, 1 << i, 255 & ~(1 << i));
        }
        return x;
    }

    /** A new law whose target is one sound. */
    static int lawOf(SoundDesk x, int kind, int target) {
        int law = x.law(kind);
        x.set(law, TARGET, SOUND, 1 << target, 0);
        return law;
    }

    /** A new law by which one sound becomes another one. */
    static int turning(SoundDesk x, int from, int to) {
        int law = lawOf(x, PLAIN, from);
        x.becomes(law, BECOMES, to);
        return law;
    }

    /** A new law by which every sound is followed by a sound. */
    static int doubling(SoundDesk x, int sound) {
        int law = x.law(PLAIN);
        x.becomes(law, FOLLOWED, sound);
        return law;
    }

    /** A new tongue with these own laws. */
    static int tongueOf(SoundDesk x, int parent, int... laws) {
        int tongue = x.tongue(parent);
        for (int law : laws) {
            x.give(tongue, law);
        }
        return tongue;
    }

    static void sayWord(SoundDesk x, String word) {
        x.hush();
        for (char c : word.toCharArray()) {
            x.say(c - '0');
        }
    }

    static void tellForm(SoundDesk x, int meaning, int tongue, String word) {
        sayWord(x, word);
        x.form(meaning, tongue);
    }

    static void puts(SoundDesk x, int... numbers) {
        for (int v : numbers) {
            x.put(v);
        }
    }

    // ---- what is due

    static void dueResult(SoundDesk x, String what, String word) {
        StringBuilder got = new StringBuilder();
        int size = x.result(-1);
        for (int i = 0; i < size; i++) {
            got.append(x.result(i));
        }
        hold(got.toString().equals(word), "the result of " + what + " is '" + got + "', due is '" + word + "'");
    }

    static void dueLed(SoundDesk x, int tongue, String from, String to) {
        sayWord(x, from);
        due("led of '" + from + "'", to.length(), x.led(tongue));
        dueResult(x, "led of '" + from + "'", to);
    }

    static void dueRow(SoundDesk x, int tongue, int... laws) {
        due("laws(" + tongue + ")", laws.length, x.laws(tongue));
        for (int k = 0; k < laws.length; k++) {
            due("lawAt(" + tongue + ", " + k + ")", laws[k], x.lawAt(tongue, k));
        }
    }
}
