import java.util.Arrays;
import java.util.List;
import java.util.function.Supplier;

/**
 * Every refused call of the document: the finding that is asked first, that told(7) counts it, and that
 * it changes nothing else: a desk behind the call reads as its twin that was never called so.
 */
public final class RefusalsTest extends DeskChecks {
    private static final Supplier<SoundDesk> BARE = SoundDesk::new;
    private static final Supplier<SoundDesk> SOME = RefusalsTest::some;
    private static final Supplier<SoundDesk> ALL = RefusalsTest::all;
    private static final Supplier<SoundDesk> NOWHERE = RefusalsTest::nowhere;
    private static final Supplier<SoundDesk> FIVE = RefusalsTest::fiveOwnLaws;
    private static final Supplier<SoundDesk> WAITS = RefusalsTest::threeHundredWait;

    public static void main(String[] args) {
        theDesksAreAsMeant();
        ofSounds();
        ofLaws();
        ofTongues();
        ofWords();
        ofSteps();
        ofSomeWords();
        ofMeanings();
        ofOrders();
        ofMatching();
        ofKeeping();
        ofChecking();
        finish("refusals");
    }

    // ---- desks to begin with

    /** Three sounds, three laws, two tongues, three meanings; led, kept, and three numbers wait. */
    private static SoundDesk some() {
        SoundDesk x = someWithoutNumbers();
        puts(x, 3, 0, 0);
        return x;
    }

    private static SoundDesk someWithoutNumbers() {
        SoundDesk x = new SoundDesk();
        x.sound(VOWEL, 1, 2);
        x.sound(STOP, 2, 1);
        x.law(PLAIN);
        x.set(0, TARGET, STOP, 2, 1);
        x.set(0, LEFT, VOWEL, 0, 0);
        x.becomes(0, BECOMES, 0);
        tongueOf(x, -1, 0);
        x.meaning();
        tellForm(x, 0, 0, "10");
        x.led(0);
        x.keep();
        x.sound(GLIDE, -1, -1);
        x.law(RIGHTWARD);
        x.set(1, TARGET, VOWEL, 0, 0);
        x.set(1, RIGHT, EDGE, 0, 0);
        x.law(LEFTWARD);
        x.set(2, TARGET, SOUND, 1, 0);
        x.set(2, LEFT, EDGE, 0, 0);
        x.becomes(2, FOLLOWED, 2);
        x.give(0, 2);
        tongueOf(x, 0, 1, 0, 2);
        x.meaning();
        x.meaning();
        tellForm(x, 0, 0, "01");
        tellForm(x, 0, 1, "021");
        tellForm(x, 2, 0, "022");
        x.cost(5);
        sayWord(x, "011");
        x.led(1);
        return x;
    }

    /** All is full but the numbers that wait; each tongue the child of the one ahead of it. */
    private static SoundDesk all() {
        SoundDesk x = sounds(8);
        for (int law = 0; law < 16; law++) {
            lawOf(x, law % 4, law % 8);
            x.becomes(law, BECOMES, (law + 1) % 8);
        }
        for (int t = 0; t < 6; t++) {
            tongueOf(x, t - 1, t, t + 1, t + 2, t + 4, t + 8, t + 10);
        }
        sayWord(x, "01234567");
        for (int meaning = 0; meaning < 8; meaning++) {
            x.meaning();
            for (int t = 0; t < 6; t++) {
                x.form(meaning, t);
            }
        }
        x.keep();
        x.led(5);
        return x;
    }

    /** As some(), and tongue 2 leads the word nowhere, to 24 sounds. */
    private static SoundDesk nowhere() {
        SoundDesk x = some();
        int law = doubling(x, 0);
        tongueOf(x, -1, law, law, law);
        return x;
    }

    private static SoundDesk fiveOwnLaws() {
        SoundDesk x = some();
        x.give(1, 0);
        x.give(1, 1);
        return x;
    }

    private static SoundDesk threeHundredWait() {
        SoundDesk x = sounds(1);
        tongueOf(x, -1);
        tongueOf(x, -1);
        for (int i = 0; i < 300; i++) {
            x.put(i);
        }
        return x;
    }

    private static void theDesksAreAsMeant() {
        SoundDesk x = some();
        due("findings on the way", 0, x.told(7));
        puts(x, Reading.REST);
        due("the rest of what waits", 0, x.check(1));
        SoundDesk y = all();
        due("findings on the way", 0, y.told(7));
        int[] full = {8, 16, 6, 8, 8, 36};
        for (int what = 0; what < full.length; what++) {
            due("full, told(" + what + ")", full[what], y.told(what));
        }
        due("300 wait", 300, threeHundredWait().told(6));
        due("findings on the way", 0, nowhere().told(7) + fiveOwnLaws().told(7) + threeHundredWait().told(7));
    }

    // ---- how a refusal is asked

    private static void refused(Supplier<SoundDesk> desk, int finding, String name, int... a) {
        refusedLeaving(desk, desk, finding, name, a);
    }

    /** The desk behind the refused call must read as the desk that is left. */
    private static void refusedLeaving(
            Supplier<SoundDesk> desk, Supplier<SoundDesk> left, int finding, String name, int... a) {
        String call = name + Arrays.toString(a);
        SoundDesk x = desk.get();
        due("told(7) ahead of " + call, 0, x.told(7));
        due(call, finding, Desks.call(x, name, a));
        due("told(7) behind " + call, 1, x.told(7));
        due(call + " again", finding, Desks.call(x, name, a));
        due("told(7) behind it", 2, x.told(7));
        for (int part = 0; part < Reading.PARTS; part++) {
            hold(Reading.now(behind(desk, name, a), part).equals(Reading.now(left.get(), part)),
                    call + " changed something (part " + part + " of a reading)");
            hold(Reading.kept(behind(desk, name, a), part).equals(Reading.kept(left.get(), part)),
                    call + " changed what is kept (part " + part + " of a reading)");
        }
    }

    private static SoundDesk behind(Supplier<SoundDesk> desk, String name, int... a) {
        SoundDesk x = desk.get();
        Desks.call(x, name, a);
        return x;
    }

    /** Numbers of what is not there, when there are so many. */
    private static List<Integer> noSuch(int count) {
        return Arrays.asList(-1, count, LEAST, GREATEST);
    }

    /** Numbers just outside 0 to a last one, and far out. */
    private static List<Integer> outside(int last) {
        return Arrays.asList(-1, last + 1, LEAST, GREATEST);
    }

    // ---- sounds, laws

    private static void ofSounds() {
        promise = 2;
        for (Supplier<SoundDesk> desk : Arrays.asList(BARE, SOME, ALL)) {
            for (int kind : outside(4)) {
                refused(desk, BEYOND, "sound", kind, 0, 0);
                refused(desk, BEYOND, "sound", kind, -1, -1);
            }
            for (int marks : outside(255)) {
                refused(desk, BEYOND, "sound", 0, marks, 0);
                refused(desk, BEYOND, "sound", 0, 0, marks);
            }
            refused(desk, BEYOND, "sound", 0, -2, -2);
            refused(desk, BEYOND, "sound", 0, -1, 255);
            refused(desk, BEYOND, "sound", 0, 255, -1);
            refused(desk, BEYOND, "sound", 0, 1, 1);
            refused(desk, BEYOND, "sound", 0, 128, 128);
            refused(desk, BEYOND, "sound", 0, 255, 16);
        }
        refused(ALL, FULL, "sound", 0, 0, 0);
        refused(ALL, FULL, "sound", 4, 255, 0);
        refused(ALL, FULL, "sound", 4, -1, -1);
        promise = 3;
        refused(BARE, BEYOND, "mark", 0, 0);
        for (int sound : noSuch(3)) {
            refused(SOME, BEYOND, "mark", sound, 0);
            refused(SOME, BEYOND, "mark", sound, 8);
        }
        refused(ALL, BEYOND, "mark", 8, 0);
        for (int mark : Arrays.asList(0, 7, 8, -1, LEAST, GREATEST)) {
            refused(SOME, MISSING, "mark", 2, mark);
        }
        for (int mark : outside(7)) {
            refused(SOME, BEYOND, "mark", 0, mark);
        }
        refused(SOME, BEYOND, "mark", 0, 32);
        promise = 4;
        refused(BARE, BEYOND, "as", 0, 0);
        for (int sound : noSuch(3)) {
            refused(SOME, BEYOND, "as", sound, 0);
            refused(SOME, BEYOND, "as", sound, 3);
        }
        refused(ALL, BEYOND, "as", 8, 0);
        for (int kind : outside(4)) {
            refused(SOME, BEYOND, "as", 0, kind);
        }
        refused(SOME, KIND, "as", 0, GLIDE);
        refused(SOME, KIND, "as", 0, STOP);
        refused(SOME, KIND, "as", 1, BREATH);
        refused(SOME, KIND, "as", 2, BREATH);
        refused(ALL, KIND, "as", 7, VOWEL);
    }

    private static void ofLaws() {
        promise = 5;
        for (int kind : outside(3)) {
            refused(BARE, BEYOND, "law", kind);
            refused(SOME, BEYOND, "law", kind);
            refused(ALL, BEYOND, "law", kind);
        }
        for (int kind = PLAIN; kind <= ONCE; kind++) {
            refused(ALL, FULL, "law", kind);
        }
        promise = 6;
        refused(BARE, BEYOND, "set", 0, TARGET, 0, 0, 0);
        refused(ALL, BEYOND, "set", 16, TARGET, 0, 0, 0);
        for (int law : noSuch(3)) {
            refused(SOME, BEYOND, "set", law, TARGET, 0, 0, 0);
        }
        for (int which : outside(2)) {
            refused(SOME, BEYOND, "set", 0, which, 0, 0, 0);
        }
        for (int which = TARGET; which <= RIGHT; which++) {
            for (int kind : Arrays.asList(-3, 5, LEAST, GREATEST)) {
                refused(SOME, BEYOND, "set", 0, which, kind, 0, 0);
            }
            for (int marks : outside(255)) {
                refused(SOME, BEYOND, "set", 1, which, 0, marks, 0);
                refused(SOME, BEYOND, "set", 1, which, 0, 0, marks);
            }
            refused(SOME, BEYOND, "set", 1, which, 0, -1, -1);
            for (int marks : Arrays.asList(-1, 1, 128, 255, 256)) {
                refused(SOME, BEYOND, "set", 2, which, EDGE, marks, 0);
                refused(SOME, BEYOND, "set", 2, which, EDGE, 0, marks);
                refused(SOME, BEYOND, "set", 2, which, ANY, marks, 0);
                refused(SOME, BEYOND, "set", 2, which, ANY, 0, marks);
            }
        }
        refused(SOME, BEYOND, "set", 0, TARGET, EDGE, 0, 0);
        refused(SOME, BEYOND, "set", 0, TARGET, ANY, 0, 0);
        promise = 7;
        refused(BARE, BEYOND, "becomes", 0, DROPPED, 0);
        refused(ALL, BEYOND, "becomes", 16, DROPPED, 0);
        refused(ALL, BEYOND, "becomes", 0, BECOMES, 8);
        refused(ALL, BEYOND, "becomes", 0, FOLLOWED, 8);
        for (int law : noSuch(3)) {
            refused(SOME, BEYOND, "becomes", law, BECOMES, 0);
            refused(SOME, BEYOND, "becomes", law, DROPPED, 0);
            refused(SOME, BEYOND, "becomes", law, FOLLOWED, 0);
        }
        for (int how : outside(2)) {
            refused(SOME, BEYOND, "becomes", 0, how, 0);
        }
        for (int sound : noSuch(3)) {
            refused(SOME, BEYOND, "becomes", 1, BECOMES, sound);
            refused(SOME, BEYOND, "becomes", 1, FOLLOWED, sound);
        }
    }

    // ---- tongues

    private static void ofTongues() {
        promise = 8;
        for (int parent : Arrays.asList(-2, LEAST, GREATEST)) {
            refused(BARE, BEYOND, "tongue", parent);
            refused(SOME, BEYOND, "tongue", parent);
            refused(ALL, BEYOND, "tongue", parent);
        }
        refused(BARE, BEYOND, "tongue", 0);
        refused(SOME, BEYOND, "tongue", 2);
        refused(ALL, BEYOND, "tongue", 6);
        for (int parent = -1; parent < 6; parent++) {
            refused(ALL, FULL, "tongue", parent);
        }
        promise = 9;
        refused(BARE, BEYOND, "give", 0, 0);
        for (int tongue : noSuch(2)) {
            refused(SOME, BEYOND, "give", tongue, 0);
        }
        for (int law : noSuch(3)) {
            refused(SOME, BEYOND, "give", 0, law);
        }
        refused(ALL, BEYOND, "give", 6, 0);
        refused(ALL, BEYOND, "give", 0, 16);
        refused(ALL, BEYOND, "give", 5, -1);
        for (int tongue = 0; tongue < 6; tongue++) {
            refused(ALL, FULL, "give", tongue, 15);
        }
        promise = 10;
        refused(BARE, BEYOND, "swap", 0, 0);
        refused(WAITS, BEYOND, "swap", 0, 0);
        for (int tongue : noSuch(2)) {
            refused(SOME, BEYOND, "swap", tongue, 0);
        }
        for (int k : Arrays.asList(-1, 1, 2, LEAST, GREATEST - 1, GREATEST)) {
            refused(SOME, BEYOND, "swap", 0, k);
        }
        refused(SOME, BEYOND, "swap", 1, 2);
        refused(SOME, BEYOND, "swap", 1, 3);
        refused(ALL, BEYOND, "swap", 5, 5);
        refused(ALL, BEYOND, "swap", 0, 5);
        promise = 11;
        refused(BARE, BEYOND, "laws", 0);
        refused(ALL, BEYOND, "laws", 6);
        for (int tongue : noSuch(2)) {
            refused(SOME, BEYOND, "laws", tongue);
        }
        promise = 12;
        refused(BARE, BEYOND, "lawAt", 0, 0);
        refused(ALL, BEYOND, "lawAt", 6, 0);
        for (int tongue : noSuch(2)) {
            refused(SOME, BEYOND, "lawAt", tongue, 0);
            refused(SOME, BEYOND, "lawAt", tongue, 99);
        }
        refused(WAITS, NONE, "lawAt", 0, 0);
        for (int k : noSuch(2)) {
            refused(SOME, NONE, "lawAt", 0, k);
        }
        refused(SOME, NONE, "lawAt", 1, 5);
        refused(ALL, NONE, "lawAt", 0, 6);
        refused(ALL, NONE, "lawAt", 5, 36);
    }

    // ---- words

    private static void ofWords() {
        promise = 13;
        refused(BARE, BEYOND, "say", 0);
        for (int sound : noSuch(3)) {
            refused(SOME, BEYOND, "say", sound);
        }
        for (int sound : noSuch(8)) {
            refused(ALL, BEYOND, "say", sound);
        }
        for (int sound = 0; sound < 8; sound++) {
            refused(ALL, FULL, "say", sound);
        }
        promise = 15;
        refused(BARE, NONE, "result", 0);
        for (int i : Arrays.asList(-2, 5, 16, LEAST, GREATEST)) {
            refused(SOME, NONE, "result", i);
        }
        refused(ALL, NONE, "result", 8);
        promise = 16;
        refused(BARE, BEYOND, "led", 0);
        refused(ALL, BEYOND, "led", 6);
        for (int tongue : noSuch(3)) {
            refused(NOWHERE, BEYOND, "led", tongue);
        }
        refused(NOWHERE, LONG, "led", 2);
    }

    private static void ofSteps() {
        promise = 17;
        ofSteps("step");
        promise = 18;
        ofSteps("places");
    }

    private static void ofSteps(String name) {
        refused(BARE, NONE, name, 0);
        refused(BARE, NONE, name, -1);
        refused(WAITS, NONE, name, 0);
        for (int k : noSuch(5)) {
            refused(SOME, NONE, name, k);
        }
        refused(ALL, NONE, name, 36);
    }

    // ---- backward, alike

    private static void ofSomeWords() {
        promise = 19;
        ofTongueAndMost("back", 4);
        promise = 20;
        refused(BARE, BEYOND, "differ", 0, 0, 0);
        refused(ALL, BEYOND, "differ", 6, 0, 0);
        refused(ALL, BEYOND, "differ", 0, 6, 0);
        for (int tongue : noSuch(2)) {
            refused(SOME, BEYOND, "differ", tongue, 0, 4);
            refused(SOME, BEYOND, "differ", 0, tongue, 4);
            refused(SOME, BEYOND, "differ", tongue, tongue, 4);
        }
        for (int most : outside(4)) {
            refused(SOME, BEYOND, "differ", 0, 1, most);
            refused(SOME, BEYOND, "differ", 1, 1, most);
        }
        refused(SOME, NONE, "differ", 1, 1, 4);
        refused(SOME, NONE, "differ", 0, 1, 0);
        promise = 21;
        ofTongueAndMost("loses", 4);
        promise = 22;
        refused(BARE, BEYOND, "stand", 0, 0, 0);
        refused(WAITS, BEYOND, "stand", 0, 0, 0);
        for (int tongue : noSuch(2)) {
            refused(SOME, BEYOND, "stand", tongue, 0, 4);
        }
        for (int k : Arrays.asList(-1, 1, 2, LEAST, GREATEST - 1, GREATEST)) {
            refused(SOME, BEYOND, "stand", 0, k, 4);
        }
        refused(SOME, BEYOND, "stand", 1, 2, 4);
        refused(SOME, BEYOND, "stand", 1, 3, 4);
        refused(ALL, BEYOND, "stand", 5, 5, 0);
        for (int most : outside(4)) {
            refused(SOME, BEYOND, "stand", 1, 0, most);
        }
    }

    private static void ofTongueAndMost(String name, int greatest) {
        refused(BARE, BEYOND, name, 0, 0);
        refused(ALL, BEYOND, name, 6, 0);
        for (int tongue : noSuch(2)) {
            refused(SOME, BEYOND, name, tongue, 0);
        }
        for (int most : outside(greatest)) {
            refused(SOME, BEYOND, name, 0, most);
        }
    }

    // ---- meanings

    private static void ofMeanings() {
        promise = 23;
        refused(ALL, FULL, "meaning");
        promise = 24;
        refused(BARE, BEYOND, "form", 0, 0);
        refused(ALL, BEYOND, "form", 8, 0);
        refused(ALL, BEYOND, "form", 0, 6);
        for (int meaning : noSuch(3)) {
            refused(SOME, BEYOND, "form", meaning, 0);
        }
        for (int tongue : noSuch(2)) {
            refused(SOME, BEYOND, "form", 1, tongue);
        }
        promise = 25;
        ofMeaningAndMost("roots");
        promise = 26;
        ofMeaningAndMost("some");
        for (int most : outside(4)) {
            refused(SOME, BEYOND, "some", 1, most);
        }
        refused(SOME, NONE, "some", 1, 0);
        refused(SOME, NONE, "some", 1, 4);
        promise = 27;
        for (int most : outside(4)) {
            refused(BARE, BEYOND, "explain", most);
            refused(SOME, BEYOND, "explain", most);
        }
    }

    private static void ofMeaningAndMost(String name) {
        refused(BARE, BEYOND, name, 0, 0);
        refused(ALL, BEYOND, name, 8, 0);
        for (int meaning : noSuch(3)) {
            refused(SOME, BEYOND, name, meaning, 0);
        }
        for (int most : outside(4)) {
            refused(SOME, BEYOND, name, 0, most);
        }
    }

    private static void ofOrders() {
        promise = 28;
        ofTongueAndMost("order", 3);
        ofFiveOwnLaws("order");
        promise = 29;
        ofTongueAndMost("few", 3);
        ofFiveOwnLaws("few");
    }

    private static void ofFiveOwnLaws(String name) {
        refused(FIVE, LONG, name, 1, 0);
        refused(FIVE, LONG, name, 1, 3);
        refused(ALL, LONG, name, 5, 0);
        for (int most : outside(3)) {
            refused(FIVE, BEYOND, name, 1, most);
        }
    }

    private static void ofMatching() {
        promise = 30;
        for (int gap : outside(99)) {
            refused(BARE, BEYOND, "cost", gap);
            refused(SOME, BEYOND, "cost", gap);
        }
        promise = 31;
        refused(BARE, BEYOND, "match", 0, 0, 0);
        refused(ALL, BEYOND, "match", 8, 0, 0);
        refused(ALL, BEYOND, "match", 0, 6, 0);
        refused(ALL, BEYOND, "match", 0, 0, 6);
        for (int meaning : noSuch(3)) {
            refused(SOME, BEYOND, "match", meaning, 0, 1);
        }
        for (int tongue : noSuch(2)) {
            refused(SOME, BEYOND, "match", 0, tongue, 0);
            refused(SOME, BEYOND, "match", 0, 0, tongue);
            refused(SOME, BEYOND, "match", 1, tongue, 0);
            refused(SOME, BEYOND, "match", 1, 0, tongue);
        }
        refused(SOME, NONE, "match", 1, 0, 1);
        refused(SOME, NONE, "match", 1, 0, 0);
        refused(SOME, NONE, "match", 2, 0, 1);
        refused(SOME, NONE, "match", 2, 1, 0);
        refused(SOME, NONE, "match", 2, 1, 1);
    }

    // ---- checking, keeping

    private static void ofKeeping() {
        promise = 32;
        refused(WAITS, FULL, "put", 0);
        refused(WAITS, FULL, "put", LEAST);
        refused(WAITS, FULL, "put", GREATEST);
        promise = 35;
        refused(BARE, NONE, "again");
        refused(WAITS, NONE, "again");
        promise = 36;
        for (int what : outside(7)) {
            refused(BARE, BEYOND, "told", what);
            refused(SOME, BEYOND, "told", what);
        }
    }

    /** The one refusal that changes something: the numbers that waited are gone. */
    private static void ofChecking() {
        promise = 33;
        refused(BARE, BEYOND, "check", 0);
        for (int tongue : noSuch(2)) {
            refusedLeaving(SOME, RefusalsTest::someWithoutNumbers, BEYOND, "check", tongue);
        }
        refused(ALL, BEYOND, "check", 6);
        for (int tongue : noSuch(3)) {
            refusedLeaving(NOWHERE, RefusalsTest::nowhereWithoutNumbers, BEYOND, "check", tongue);
        }
        refusedLeaving(NOWHERE, RefusalsTest::nowhereWithoutNumbers, LONG, "check", 2);
        SoundDesk x = threeHundredWait();
        due("check(2)", BEYOND, x.check(2));
        due("none of 300 waits then", 0, x.told(6));
        due("there is room again", 1, x.put(5));
    }

    private static SoundDesk nowhereWithoutNumbers() {
        SoundDesk x = nowhere();
        x.check(0);
        return x;
    }
}
