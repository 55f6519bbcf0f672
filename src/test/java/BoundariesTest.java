import java.io.IOException;
import java.nio.file.Files;
import java.nio.file.Path;
import java.util.ArrayList;
import java.util.List;

/**
 * Each sentence of the document that names a boundary case, and at it the last values that are taken, the
 * first that are not, and the empty and the full state. RefusalsTest asks the same of every refused call,
 * and that it changes nothing.
 */
public final class BoundariesTest extends DeskChecks {
    private static final Path DOCUMENT = Path.of("../shared/DOC.md");
    private static final List<String> QUOTES = new ArrayList<>();
    private static final boolean[] QUOTED = new boolean[37];

    public static void main(String[] args) throws IOException {
        findings();
        soundsAndWords();
        setsOfLaws();
        edges();
        kindsOfLaws();
        placesFurtherOn();
        tongues();
        longWords();
        someWords();
        meaningsAndRoots();
        aNewObject();
        sound();
        mark();
        as();
        law();
        set();
        becomes();
        tongue();
        giveAndSwap();
        lawsAndLawAt();
        sayAndHush();
        result();
        led();
        stepAndPlaces();
        back();
        differ();
        loses();
        stand();
        meaningAndForm();
        roots();
        some();
        explain();
        order();
        few();
        cost();
        match();
        put();
        check();
        keepAndAgain();
        told();
        quotesStandInTheDocument();
        finish("boundaries");
    }

    /** The answers that follow are due by this sentence of a promise (0: of the terms). */
    private static void by(int number, String words) {
        promise = number;
        sentence = words;
        QUOTES.add(words);
        QUOTED[number] = true;
    }

    private static void quotesStandInTheDocument() throws IOException {
        for (promise = 0; promise < QUOTED.length; promise++) {
            hold(QUOTED[promise], "no sentence of it was asked");
        }
        if (!Files.isRegularFile(DOCUMENT)) {
            return;
        }
        String text = Files.readString(DOCUMENT).replaceAll("\\s+", " ");
        for (String quote : QUOTES) {
            hold(text.contains(quote), "the document does not say '" + quote + "'");
        }
    }

    // ---- the terms

    private static void findings() {
        by(0, "BEYOND -1, MISSING -2, FULL -3, KIND -4, NONE -5, LONG -6.");
        SoundDesk x = new SoundDesk();
        x.sound(VOWEL, -1, -1);
        doubling(x, 0);
        tongueOf(x, -1, 0, 0, 0, 0, 0);
        for (int i = 0; i < 8; i++) {
            x.meaning();
        }
        x.say(0);
        due("BEYOND", -1, x.say(1));
        due("MISSING", -2, x.mark(0, 0));
        due("FULL", -3, x.meaning());
        due("KIND", -4, x.as(0, STOP));
        due("NONE", -5, x.result(0));
        due("LONG", -6, x.led(0));
        by(0, "Each act tells its findings in the order in which they are asked");
        due("a sound that is not there ahead of a missing row", BEYOND, x.mark(1, 0));
        due("a missing row ahead of a mark that is not there", MISSING, x.mark(0, 8));
        due("no such tongue ahead of a word that is too long", BEYOND, x.led(1));
        due("most ahead of a meaning without forms", BEYOND, x.some(0, 5));
        due("most ahead of too many laws", BEYOND, x.order(0, 4));
        due("too many laws", LONG, x.order(0, 3));
    }

    private static void soundsAndWords() {
        by(0, "SOUNDS 0, 1, .. (at most 8)");
        SoundDesk x = sounds(8);
        x.law(PLAIN);
        x.becomes(0, BECOMES, 7);
        tongueOf(x, -1, 0);
        dueLed(x, 0, "01234567", "77777777");
        due("the eighth, the last one", 7, x.as(7, SOUND));
        due("a ninth", FULL, x.sound(0, 0, 0));
        due("the ninth is not there", BEYOND, x.as(8, SOUND));
        by(0, "a GLIDE is a VOWEL, too, a BREATH a STOP, and all are SOUNDs.");
        String[] left = {"", "034", "0134", "012", "0123"};
        SoundDesk y = new SoundDesk();
        for (int kind = SOUND; kind <= BREATH; kind++) {
            y.sound(kind, 0, 0);
        }
        y.law(PLAIN);
        tongueOf(y, -1, 0);
        for (int kind = SOUND; kind <= BREATH; kind++) {
            y.set(0, TARGET, kind, 0, 0);
            dueLed(y, 0, "01234", left[kind]);
        }
        by(0, "or its row is MISSING (none is told)");
        SoundDesk z = new SoundDesk();
        z.sound(STOP, -1, -1);
        z.sound(STOP, 0, 0);
        z.sound(STOP, 255, 0);
        z.sound(STOP, 0, 255);
        z.law(PLAIN);
        tongueOf(z, -1, 0);
        dueLed(z, 0, "0123", "");
        for (int mark = 0; mark < 8; mark++) {
            z.set(0, TARGET, STOP, 1 << mark, 0);
            dueLed(z, 0, "0123", "013");
            z.set(0, TARGET, STOP, 0, 1 << mark);
            dueLed(z, 0, "0123", "012");
        }
        wordsAhead();
    }

    private static void wordsAhead() {
        by(0, "when it is shorter, or of the same length with the lower sound at the first place at which they differ.");
        SoundDesk x = sounds(3);
        tongueOf(x, -1, turning(x, 1, 0), turning(x, 2, 1), lawOf(x, PLAIN, 0));
        sayWord(x, "1");
        due("each word with one 2", 1 + 4 + 12 + 32, x.back(0, 4));
        dueResult(x, "the shorter one, though 02 begins lower", "2");
        sayWord(x, "");
        due("words without 2", 1 + 2 + 4 + 8 + 16, x.back(0, 4));
        dueResult(x, "the empty word is the shortest", "");
        SoundDesk y = sounds(2);
        int alone = lawOf(y, PLAIN, 1);
        y.set(alone, LEFT, EDGE, 0, 0);
        y.set(alone, RIGHT, EDGE, 0, 0);
        tongueOf(y, -1, alone, lawOf(y, PLAIN, 0));
        sayWord(y, "1");
        due("01 and 10, not 1 itself", 2, y.back(0, 2));
        dueResult(y, "the lower sound at the first place", "01");
        due("001, 010, 100 more", 5, y.back(0, 3));
        dueResult(y, "the shorter one still", "01");
    }

    private static void setsOfLaws() {
        by(0, "a sound FITS it when it is of that kind and these marks are told so.");
        SoundDesk x = new SoundDesk();
        x.sound(GLIDE, 129, 66);
        x.sound(GLIDE, 128, 66);
        x.sound(GLIDE, 129, 64);
        x.sound(VOWEL, 129, 66);
        x.sound(GLIDE, 255, 0);
        x.sound(GLIDE, 0, 255);
        x.law(PLAIN);
        tongueOf(x, -1, 0);
        x.set(0, TARGET, GLIDE, 129, 66);
        dueLed(x, 0, "012345", "12345");
        x.set(0, TARGET, VOWEL, 129, 66);
        dueLed(x, 0, "012345", "1245");
        x.set(0, TARGET, SOUND, 255, 0);
        dueLed(x, 0, "012345", "01235");
        x.set(0, TARGET, SOUND, 0, 255);
        dueLed(x, 0, "012345", "01234");
        x.set(0, TARGET, SOUND, 1, 1);
        dueLed(x, 0, "012345", "012345");
        by(0, "At first the target is kind 0 without marks, left and right are ANY, and a place is DROPPED.");
        SoundDesk y = new SoundDesk();
        for (int kind = SOUND; kind <= BREATH; kind++) {
            y.sound(kind, -1, -1);
        }
        for (int kind = PLAIN; kind <= ONCE; kind++) {
            y.law(kind);
            tongueOf(y, -1, kind);
            dueLed(y, kind, "01234", kind == ONCE ? "1234" : "");
            dueLed(y, kind, "3", "");
        }
        by(0, "LAWS 0, 1, .. (at most 16)");
        SoundDesk z = sounds(2);
        for (int i = 0; i < 16; i++) {
            due("law " + i, i, z.law(ONCE));
        }
        due("a 17th", FULL, z.law(ONCE));
        z.becomes(15, BECOMES, 1);
        tongueOf(z, -1, 15);
        dueLed(z, 0, "00", "10");
        z.set(15, TARGET, STOP, 0, 0);
        z.set(15, RIGHT, GLIDE, 0, 0);
        for (int i = 2; i < 8; i++) {
            due("a sound behind 16 laws", i, z.sound(i == 6 ? BREATH : GLIDE, 0, 0));
        }
        dueLed(z, 0, "0607667", "0607617");
    }

    private static void edges() {
        by(0, "Left and right may also be the EDGE (it fits just where no sound is on that side), or ANY (it fits always).");
        SoundDesk x = sounds(2);
        for (int kind = PLAIN; kind <= ONCE; kind++) {
            x.law(kind);
            x.becomes(kind, BECOMES, 1);
            tongueOf(x, -1, kind);
            x.set(kind, LEFT, EDGE, 0, 0);
            dueLed(x, kind, "000", "100");
            dueLed(x, kind, "0", "1");
            dueLed(x, kind, "", "");
            x.set(kind, RIGHT, EDGE, 0, 0);
            dueLed(x, kind, "000", "000");
            dueLed(x, kind, "0", "1");
            x.set(kind, LEFT, ANY, 0, 0);
            dueLed(x, kind, "000", "001");
            dueLed(x, kind, "0", "1");
            x.set(kind, RIGHT, ANY, 0, 0);
            dueLed(x, kind, "000", kind == ONCE ? "100" : "111");
            x.set(kind, LEFT, SOUND, 0, 0);
            dueLed(x, kind, "000", kind == ONCE ? "010" : "011");
            dueLed(x, kind, "0", "0");
            x.set(kind, LEFT, ANY, 0, 0);
            x.set(kind, RIGHT, SOUND, 0, 0);
            dueLed(x, kind, "000", kind == ONCE ? "100" : "110");
            dueLed(x, kind, "0", "0");
        }
    }

    private static void kindsOfLaws() {
        by(0, "PLAIN: all places that fit change at once. ONCE: the first one alone.");
        SoundDesk x = sounds(3);
        for (int kind = PLAIN; kind <= ONCE; kind++) {
            lawOf(x, kind, 0);
            tongueOf(x, -1, kind);
            boolean once = kind == ONCE;
            dueLed(x, kind, "", "");
            due("no place of the empty word", 0, x.places(0));
            dueLed(x, kind, "1221", "1221");
            due("no place fits", 0, x.places(0));
            dueLed(x, kind, "0", "");
            due("the one place", 1, x.places(0));
            dueLed(x, kind, "00000000", once ? "0000000" : "");
            due("all eight places", once ? 1 : 8, x.places(0));
            dueLed(x, kind, "12210", "1221");
            due("the last place", 1, x.places(0));
            dueLed(x, kind, "01020", once ? "1020" : "12");
            due("the first, a middle and the last place", once ? 1 : 3, x.places(0));
        }
        int gone = lawOf(x, PLAIN, 0);
        x.set(gone, LEFT, SOUND, 1, 0);
        x.set(gone, RIGHT, SOUND, 1, 0);
        tongueOf(x, -1, gone);
        dueLed(x, 4, "00000", "00");
        by(0, "FOLLOWED (a told sound is put in behind it)");
        for (int kind = PLAIN; kind <= ONCE; kind++) {
            x.becomes(kind, FOLLOWED, 2);
            dueLed(x, kind, "", "");
            dueLed(x, kind, "0", "02");
            dueLed(x, kind, "10", "102");
            dueLed(x, kind, "00", kind == ONCE ? "020" : "0202");
            x.becomes(kind, FOLLOWED, 0);
            dueLed(x, kind, "010", kind == ONCE ? "0010" : "00100");
        }
    }

    private static void placesFurtherOn() {
        by(0, "(what was put in stands there, what was dropped does not); what was put in is no place of its own.");
        SoundDesk x = sounds(3);
        int drop = lawOf(x, RIGHTWARD, 0);
        x.set(drop, LEFT, EDGE, 0, 0);
        tongueOf(x, -1, drop);
        dueLed(x, 0, "00000000", "");
        due("each is at the edge in its turn", 8, x.places(0));
        dueLed(x, 0, "00100", "100");
        int behindIt = lawOf(x, RIGHTWARD, 0);
        x.set(behindIt, LEFT, SOUND, 0, 4);
        x.becomes(behindIt, FOLLOWED, 2);
        tongueOf(x, -1, behindIt);
        dueLed(x, 1, "1000", "102002");
        due("what was put in stands there", 2, x.places(0));
        int noPlace = x.law(RIGHTWARD);
        x.becomes(noPlace, FOLLOWED, 1);
        tongueOf(x, -1, noPlace);
        dueLed(x, 2, "1", "11");
        due("what was put in is no place", 1, x.places(0));
        int noLeftPlace = x.law(LEFTWARD);
        x.becomes(noLeftPlace, FOLLOWED, 1);
        tongueOf(x, -1, noLeftPlace);
        dueLed(x, 3, "1", "11");
        due("what was put in is no place", 1, x.places(0));
        by(0, "LEFTWARD: likewise from the last place on, its places further right being done.");
        int dropLast = lawOf(x, LEFTWARD, 0);
        x.set(dropLast, RIGHT, EDGE, 0, 0);
        tongueOf(x, -1, dropLast);
        dueLed(x, 4, "00000000", "");
        due("each is at the edge in its turn", 8, x.places(0));
        dueLed(x, 4, "00100", "001");
        int spread = lawOf(x, LEFTWARD, 0);
        x.set(spread, RIGHT, SOUND, 2, 0);
        x.becomes(spread, BECOMES, 1);
        tongueOf(x, -1, spread);
        dueLed(x, 5, "00000001", "11111111");
        x.becomes(spread, FOLLOWED, 1);
        dueLed(x, 5, "00001", "000011");
        due("a place that is followed stays what it was", 1, x.places(0));
    }

    private static void tongues() {
        by(0, "TONGUES 0, 1, .. (at most 6), each with a parent, a lower tongue, or none; and OWN laws (at most 6;");
        SoundDesk x = sounds(1);
        for (int t = 0; t < 6; t++) {
            due("tongue " + t, t, x.tongue(t - 1));
        }
        due("a seventh", FULL, x.tongue(5));
        by(0, "the same law may be there more than once");
        x.law(ONCE);
        for (int i = 1; i <= 6; i++) {
            due("the same law as own one " + i, i, x.give(5, 0));
        }
        due("a seventh own one", FULL, x.give(5, 0));
        dueLed(x, 5, "00000000", "00");
        by(0, "ITS LAWS are those of its parent (all of them), then its own.");
        for (int i = 0; i < 2; i++) {
            x.give(0, 0);
        }
        due("those of the parent of its parent, too", 8, x.laws(5));
        dueLed(x, 5, "00000000", "");
        due("places of the last", 1, x.places(7));
        SoundDesk y = sounds(3);
        tongueOf(y, -1, turning(y, 0, 1));
        tongueOf(y, 0, turning(y, 1, 2));
        tongueOf(y, -1, 1);
        tongueOf(y, 2, 0);
        dueLed(y, 1, "0", "2");
        dueLed(y, 3, "0", "1");
    }

    private static void longWords() {
        by(0, "When some law makes more than 16 sounds of it, it is led NOWHERE.");
        for (int kind = PLAIN; kind <= ONCE; kind++) {
            for (int sound = 0; sound < 8; sound += 7) {
                SoundDesk x = sounds(8);
                int twice = doubling(x, sound);
                int oneMore = lawOf(x, kind, 0);
                x.set(oneMore, LEFT, EDGE, 0, 0);
                x.becomes(oneMore, FOLLOWED, sound);
                int dropAll = x.law(PLAIN);
                int dropOne = x.law(ONCE);
                tongueOf(x, -1, twice);
                tongueOf(x, 0, oneMore);
                tongueOf(x, 1, dropAll);
                tongueOf(x, 0, dropOne, oneMore);
                tongueOf(x, 0, oneMore, dropOne);
                sayWord(x, "00000000");
                due("16 sounds", 16, x.led(0));
                due("the last of 16", sound, x.result(15));
                due("17 sounds", LONG, x.led(1));
                due("17 sounds, and none behind them", LONG, x.led(2));
                due("15 sounds, then 15 or 16", sound == 0 ? 16 : 15, x.led(3));
                due("17 sounds, then 16", LONG, x.led(4));
                sayWord(x, "0000000");
                due("14 and one more", 15, x.led(1));
            }
        }
        SoundDesk y = sounds(1);
        doubling(y, 0);
        y.law(PLAIN);
        tongueOf(y, -1, 0, 0, 0, 0, 1);
        tongueOf(y, -1, 0, 0, 0, 0, 0, 1);
        dueLed(y, 0, "0", "");
        due("16 sounds behind the fourth", 16, y.step(3));
        due("32 behind the fifth", LONG, y.led(1));
    }

    private static void someWords() {
        by(0, "SOME WORDS are those of a told length at most (0 to 4), in their order, of all sounds that there are.");
        for (int count = 0; count <= 8; count++) {
            SoundDesk x = sounds(count);
            x.law(PLAIN);
            tongueOf(x, -1, 0);
            int words = 1;
            int ofThisSize = 1;
            for (int most = 0; most <= 4; most++) {
                due("all words of at most " + most + " of " + count + " sounds", words, x.back(0, most));
                due("all but the first", words - 1, x.loses(0, most));
                ofThisSize *= count;
                words += ofThisSize;
            }
            due("most -1", BEYOND, x.back(0, -1));
            due("most 5", BEYOND, x.back(0, 5));
            if (count < 8) {
                x.sound(0, 0, 0);
                due("a new sound makes new words", count + 2, x.back(0, 1));
            }
        }
        by(0, "They are led ALIKE by two rows of laws when both lead to the same word, or both NOWHERE.");
        SoundDesk y = sounds(1);
        doubling(y, 0);
        int drop = y.law(PLAIN);
        tongueOf(y, -1, 0, 0, 0, 0, 0);
        tongueOf(y, -1, 0, 0, 0, 0, 0, drop);
        tongueOf(y, -1, drop);
        due("all nowhere but the empty word", NONE, y.differ(0, 1, 4));
        due("nowhere is not the empty word", 1, y.differ(1, 2, 4));
        due("the empty word itself", NONE, y.differ(1, 2, 0));
    }

    private static void meaningsAndRoots() {
        by(0, "MEANINGS 0, 1, .. (at most 8) have in each tongue a word (a FORM) or none.");
        SoundDesk x = sounds(2);
        for (int i = 0; i < 6; i++) {
            x.tongue(-1);
        }
        for (int i = 0; i < 8; i++) {
            due("meaning " + i, i, x.meaning());
        }
        due("a ninth", FULL, x.meaning());
        for (int i = 0; i < 6; i++) {
            due("a form in tongue " + i + ", the empty word", i + 1, x.form(7, i));
        }
        due("no form of another meaning", NONE, x.match(6, 0, 0));
        by(0, "when each tongue that has a form leads it to this form, and at least one has one.");
        due("all six have the same form", 1, x.roots(7, 4));
        due("a meaning without forms has no root", 0, x.roots(0, 4));
        due("one of eight is explained", 1, x.explain(4));
        tellForm(x, 7, 5, "1");
        due("one of six forms is another", 0, x.roots(7, 4));
    }

    // ---- a new object; sounds, laws

    private static void aNewObject() {
        by(1, "No sounds, laws, tongues, meanings; THE WORD and THE RESULT are empty; nothing was led.");
        for (int what = 0; what < 8; what++) {
            due("told(" + what + ")", 0, new SoundDesk().told(what));
        }
        SoundDesk x = new SoundDesk();
        due("the result", 0, x.result(-1));
        due("the word", 0, x.hush());
        due("nothing was led", NONE, x.step(0));
        due("nothing is explained", 0, x.explain(4));
        due("no such tongue", BEYOND, x.back(0, 0));
        due("nothing is kept", NONE, x.again());
        by(0, "An object is used for at most 512 calls after it has been made");
        SoundDesk y = new SoundDesk();
        for (int i = 0; i < 511; i++) {
            due("call " + i, BEYOND, y.laws(0));
        }
        due("the 512th", 511, y.told(7));
    }

    private static void sound() {
        by(2, "Bits 0 to 7 of yes and no tell its marks; -1 of both: its row is MISSING.");
        SoundDesk x = new SoundDesk();
        int[][] rows = {{0, 0}, {255, 0}, {0, 255}, {1, 128}, {128, 1}, {85, 170}, {-1, -1}, {1, 254}};
        for (int s = 0; s < 8; s++) {
            int kind = s == 0 ? SOUND : s == 1 ? BREATH : s % 5;
            due("sound " + s, s, x.sound(kind, rows[s][0], rows[s][1]));
            due("its kind", s, x.as(s, kind));
        }
        for (int s = 0; s < 8; s++) {
            for (int mark = 0; mark < 8; mark++) {
                boolean yes = (rows[s][0] >> mark & 1) == 1;
                boolean no = (rows[s][1] >> mark & 1) == 1;
                due("mark " + mark + " of sound " + s, s == 6 ? MISSING : yes ? 1 : no ? 0 : 2, x.mark(s, mark));
            }
        }
        by(2, "BEYOND: kind is not 0 to 4; or (unless both are -1) one of them is not 0 to 255, or they have a bit in common.");
        SoundDesk y = new SoundDesk();
        due("kind -1", BEYOND, y.sound(-1, 0, 0));
        due("kind 0", 0, y.sound(0, 0, 0));
        due("kind 4", 1, y.sound(4, 0, 0));
        due("kind 5", BEYOND, y.sound(5, 0, 0));
        due("kind 5 of a missing row", BEYOND, y.sound(5, -1, -1));
        due("yes 255", 2, y.sound(0, 255, 0));
        due("yes 256", BEYOND, y.sound(0, 256, 0));
        due("no 255", 3, y.sound(0, 0, 255));
        due("no 256", BEYOND, y.sound(0, 0, 256));
        due("yes -1 alone", BEYOND, y.sound(0, -1, 0));
        due("no -1 alone", BEYOND, y.sound(0, 0, -1));
        due("both -1", 4, y.sound(0, -1, -1));
        due("both -2", BEYOND, y.sound(0, -2, -2));
        due("both 256", BEYOND, y.sound(0, 256, 256));
        for (int mark = 0; mark < 8; mark++) {
            due("bit " + mark + " in common", BEYOND, y.sound(0, 1 << mark, 1 << mark));
            due("bit " + mark + " of many in common", BEYOND, y.sound(0, 255, 1 << mark));
        }
        by(2, "FULL: there are 8.");
        for (int i = 5; i < 8; i++) {
            due("sound " + i, i, y.sound(0, 0, 0));
        }
        due("a ninth", FULL, y.sound(0, 0, 0));
        due("a ninth with a missing row", FULL, y.sound(0, -1, -1));
        due("a ninth of no kind", BEYOND, y.sound(-1, 0, 0));
    }

    private static void mark() {
        by(3, "A mark of a sound: 1 yes, 0 no, 2 not told. BEYOND: no such sound. MISSING: its row is. BEYOND: mark is not 0 to 7.");
        SoundDesk x = new SoundDesk();
        due("no sounds", BEYOND, x.mark(0, 0));
        x.sound(0, 1, 128);
        x.sound(0, -1, -1);
        x.sound(0, 128, 1);
        due("mark -1", BEYOND, x.mark(0, -1));
        due("mark 0, yes", 1, x.mark(0, 0));
        due("mark 1, not told", 2, x.mark(0, 1));
        due("mark 7, no", 0, x.mark(0, 7));
        due("mark 8", BEYOND, x.mark(0, 8));
        due("mark 32 is not mark 0", BEYOND, x.mark(0, 32));
        due("mark -32 is not mark 0", BEYOND, x.mark(0, -32));
        due("missing", MISSING, x.mark(1, 7));
        due("missing, though mark is beyond", MISSING, x.mark(1, 8));
        due("missing, though mark is beyond", MISSING, x.mark(1, -1));
        due("the last sound", 1, x.mark(2, 7));
        due("no such sound", BEYOND, x.mark(3, 7));
        due("sound -1", BEYOND, x.mark(-1, 7));
    }

    private static void as() {
        by(4, "BEYOND: no such sound, or kind is not 0 to 4. KIND: it is not of that kind.");
        SoundDesk x = new SoundDesk();
        due("no sounds", BEYOND, x.as(0, 0));
        x.sound(SOUND, 0, 0);
        x.sound(BREATH, -1, -1);
        due("sound -1", BEYOND, x.as(-1, 0));
        due("sound 2", BEYOND, x.as(2, 0));
        due("kind -1", BEYOND, x.as(0, -1));
        due("kind 0", 0, x.as(0, 0));
        due("kind 4", 1, x.as(1, 4));
        due("a breath as a stop", 1, x.as(1, 3));
        due("kind 5", BEYOND, x.as(1, 5));
        due("a sound as a vowel", KIND, x.as(0, 1));
        due("a sound as a breath", KIND, x.as(0, 4));
        due("a breath as a glide", KIND, x.as(1, 2));
        due("no such sound of no such kind", BEYOND, x.as(2, 5));
    }

    private static void law() {
        by(5, "A new law, as told: its number. BEYOND: kind is not 0 to 3. FULL: there are 16.");
        SoundDesk x = new SoundDesk();
        due("kind -1", BEYOND, x.law(-1));
        due("kind 0", 0, x.law(0));
        due("kind 3", 1, x.law(3));
        due("kind 4", BEYOND, x.law(4));
        for (int i = 2; i < 16; i++) {
            due("law " + i, i, x.law(i % 4));
        }
        due("a 17th", FULL, x.law(0));
        due("a 17th of no kind", BEYOND, x.law(4));
        due("a 17th of no kind", BEYOND, x.law(-1));
    }

    private static void set() {
        by(6, "of a kind (or -1 the EDGE, -2 ANY, not of the target), with marks as bits: 0.");
        SoundDesk x = sounds(1);
        due("no laws", BEYOND, x.set(0, 0, 0, 0, 0));
        x.law(PLAIN);
        x.law(PLAIN);
        for (int which = TARGET; which <= RIGHT; which++) {
            boolean target = which == TARGET;
            due("kind -3", BEYOND, x.set(1, which, -3, 0, 0));
            due("kind -2", target ? BEYOND : 0, x.set(1, which, -2, 0, 0));
            due("kind -1", target ? BEYOND : 0, x.set(1, which, -1, 0, 0));
            due("kind 0", 0, x.set(1, which, 0, 0, 0));
            due("kind 4", 0, x.set(1, which, 4, 0, 0));
            due("kind 5", BEYOND, x.set(1, which, 5, 0, 0));
        }
        by(6, "BEYOND: no such law, or which; kind is none; yes or no is not 0 to 255, or (with EDGE or ANY) not 0.");
        due("law -1", BEYOND, x.set(-1, 0, 0, 0, 0));
        due("law 2", BEYOND, x.set(2, 0, 0, 0, 0));
        due("a law far beyond", BEYOND, x.set(1431655766, 0, 0, 0, 0));
        due("which -1", BEYOND, x.set(0, -1, 0, 0, 0));
        due("which 3", BEYOND, x.set(0, 3, 0, 0, 0));
        for (int which = TARGET; which <= RIGHT; which++) {
            due("yes 255, no 255", 0, x.set(0, which, 0, 255, 255));
            due("yes 256", BEYOND, x.set(0, which, 0, 256, 0));
            due("yes -1", BEYOND, x.set(0, which, 0, -1, 0));
            due("no 256", BEYOND, x.set(0, which, 0, 0, 256));
            due("no -1", BEYOND, x.set(0, which, 0, 0, -1));
            due("both -1", BEYOND, x.set(0, which, 0, -1, -1));
        }
        for (int which = LEFT; which <= RIGHT; which++) {
            for (int kind = ANY; kind <= EDGE; kind++) {
                due("no marks", 0, x.set(0, which, kind, 0, 0));
                due("yes 1", BEYOND, x.set(0, which, kind, 1, 0));
                due("no 1", BEYOND, x.set(0, which, kind, 0, 1));
                due("yes -1", BEYOND, x.set(0, which, kind, -1, 0));
                due("no 255", BEYOND, x.set(0, which, kind, 0, 255));
            }
        }
    }

    private static void becomes() {
        by(7, "how = 0 it BECOMES a sound, 1 it is DROPPED (sound is not looked at), 2 it is FOLLOWED by a sound: 0.");
        SoundDesk x = new SoundDesk();
        due("no laws", BEYOND, x.becomes(0, DROPPED, 0));
        x.law(PLAIN);
        tongueOf(x, -1, 0);
        due("becomes, without sounds", BEYOND, x.becomes(0, BECOMES, 0));
        due("followed, without sounds", BEYOND, x.becomes(0, FOLLOWED, 0));
        due("dropped, without sounds", 0, x.becomes(0, DROPPED, 0));
        x.sound(0, 0, 0);
        x.sound(0, 0, 0);
        due("becomes the last sound", 0, x.becomes(0, BECOMES, 1));
        dueLed(x, 0, "00", "11");
        due("followed by the last sound", 0, x.becomes(0, FOLLOWED, 1));
        dueLed(x, 0, "00", "0101");
        for (int sound : new int[] {-1, 2, LEAST, GREATEST}) {
            due("dropped, sound " + sound, 0, x.becomes(0, DROPPED, sound));
            dueLed(x, 0, "00", "");
        }
        by(7, "BEYOND: no such law, how, or sound.");
        due("law -1", BEYOND, x.becomes(-1, DROPPED, 0));
        due("law 1", BEYOND, x.becomes(1, DROPPED, 0));
        due("how -1", BEYOND, x.becomes(0, -1, 0));
        due("how 3", BEYOND, x.becomes(0, 3, 0));
        due("becomes sound -1", BEYOND, x.becomes(0, BECOMES, -1));
        due("becomes sound 2", BEYOND, x.becomes(0, BECOMES, 2));
        due("followed by sound -1", BEYOND, x.becomes(0, FOLLOWED, -1));
        due("followed by sound 2", BEYOND, x.becomes(0, FOLLOWED, 2));
        dueLed(x, 0, "00", "");
    }

    // ---- tongues

    private static void tongue() {
        by(8, "A new tongue without own laws: its number. BEYOND: parent is not -1 and no tongue. FULL: there are 6.");
        SoundDesk x = new SoundDesk();
        x.law(PLAIN);
        due("parent -2", BEYOND, x.tongue(-2));
        due("itself as parent", BEYOND, x.tongue(0));
        due("no parent", 0, x.tongue(-1));
        due("itself as parent", BEYOND, x.tongue(1));
        due("parent 0", 1, x.tongue(0));
        due("no own laws", 1, x.give(1, 0));
        for (int i = 2; i < 6; i++) {
            due("tongue " + i, i, x.tongue(1));
        }
        due("no own laws, its parent's alone", 1, x.laws(5));
        due("a seventh", FULL, x.tongue(-1));
        due("a seventh of the last", FULL, x.tongue(5));
        due("a seventh of itself", BEYOND, x.tongue(6));
        due("a seventh of -2", BEYOND, x.tongue(-2));
    }

    private static void giveAndSwap() {
        by(9, "BEYOND: no such tongue, or law. FULL: it has 6.");
        SoundDesk x = new SoundDesk();
        for (int i = 0; i < 6; i++) {
            x.law(PLAIN);
        }
        due("no tongues", BEYOND, x.give(0, 0));
        x.tongue(-1);
        x.tongue(0);
        due("law -1", BEYOND, x.give(0, -1));
        due("law 6", BEYOND, x.give(0, 6));
        due("tongue -1", BEYOND, x.give(-1, 0));
        due("tongue 2", BEYOND, x.give(2, 0));
        for (int i = 0; i < 6; i++) {
            due("own law " + i, i + 1, x.give(0, i));
        }
        due("a seventh", FULL, x.give(0, 0));
        due("a seventh that is not there", BEYOND, x.give(0, 6));
        due("its parent's do not count", 1, x.give(1, 5));
        dueRow(x, 1, 0, 1, 2, 3, 4, 5, 5);
        by(10, "BEYOND: no such tongue, or it has not both.");
        due("k -1", BEYOND, x.swap(0, -1));
        due("the first two", 0, x.swap(0, 0));
        due("the last two", 0, x.swap(0, 4));
        due("the last alone", BEYOND, x.swap(0, 5));
        due("none", BEYOND, x.swap(0, 6));
        due("k + 1 wraps around", BEYOND, x.swap(0, GREATEST));
        due("k least", BEYOND, x.swap(0, LEAST));
        dueRow(x, 0, 1, 0, 2, 3, 5, 4);
        due("one own law alone", BEYOND, x.swap(1, 0));
        due("tongue -1", BEYOND, x.swap(-1, 0));
        due("tongue 2", BEYOND, x.swap(2, 0));
        x.tongue(-1);
        due("no own laws", BEYOND, x.swap(2, 0));
        due("no own laws", BEYOND, x.swap(2, -1));
    }

    private static void lawsAndLawAt() {
        by(11, "How many laws a tongue has (its parent's, too). BEYOND.");
        SoundDesk x = new SoundDesk();
        due("no tongues", BEYOND, x.laws(0));
        for (int i = 0; i < 16; i++) {
            x.law(PLAIN);
        }
        x.tongue(-1);
        due("none at first", 0, x.laws(0));
        for (int i = 0; i < 6; i++) {
            x.give(0, i);
        }
        for (int t = 1; t < 6; t++) {
            tongueOf(x, t - 1, t, t + 1, t + 2, t + 4, t + 8, t + 10);
            due("laws of tongue " + t, 6 * (t + 1), x.laws(t));
        }
        due("tongue -1", BEYOND, x.laws(-1));
        due("tongue 6", BEYOND, x.laws(6));
        by(12, "The k-th (from 0) law of a tongue. BEYOND: no such tongue. NONE: it has not so many.");
        due("the first of 36", 0, x.lawAt(5, 0));
        due("the last of the first tongue", 5, x.lawAt(5, 5));
        due("the first of the second tongue", 1, x.lawAt(5, 6));
        due("the last of 36", 15, x.lawAt(5, 35));
        due("a 37th", NONE, x.lawAt(5, 36));
        due("a seventh", NONE, x.lawAt(0, 6));
        due("k -1", NONE, x.lawAt(5, -1));
        due("k least", NONE, x.lawAt(5, LEAST));
        due("k greatest", NONE, x.lawAt(5, GREATEST));
        due("tongue -1", BEYOND, x.lawAt(-1, 0));
        due("tongue 6, though it has not so many", BEYOND, x.lawAt(6, 99));
        SoundDesk y = new SoundDesk();
        due("no tongues", BEYOND, y.lawAt(0, 0));
        y.tongue(-1);
        due("no laws", NONE, y.lawAt(0, 0));
    }

    // ---- words

    private static void sayAndHush() {
        by(13, "A sound comes to THE WORD: how many it has. BEYOND: no such sound. FULL: it has 8.");
        SoundDesk x = new SoundDesk();
        due("no sounds", BEYOND, x.say(0));
        x.sound(0, 0, 0);
        x.sound(0, 0, 0);
        due("sound -1", BEYOND, x.say(-1));
        due("sound 2", BEYOND, x.say(2));
        for (int i = 1; i <= 8; i++) {
            due("sound " + i, i, x.say(i % 2));
        }
        due("a ninth", FULL, x.say(0));
        due("a ninth that is not there", BEYOND, x.say(2));
        due("a ninth that is not there", BEYOND, x.say(-1));
        x.tongue(-1);
        due("led", 8, x.led(0));
        dueResult(x, "eight said, not nine", "10101010");
        by(14, "THE WORD is empty: how many sounds it had.");
        due("the full one", 8, x.hush());
        due("the empty one", 0, x.hush());
        due("a new first sound", 1, x.say(1));
        due("one", 1, x.hush());
        due("the result stays", 8, x.result(-1));
        due("led", 0, x.led(0));
    }

    private static void result() {
        by(15, "Sound i of THE RESULT; NONE. i = -1: how many it has.");
        SoundDesk x = sounds(8);
        due("how many of the empty one", 0, x.result(-1));
        due("the first of the empty one", NONE, x.result(0));
        doubling(x, 7);
        tongueOf(x, -1, 0);
        sayWord(x, "01234560");
        due("16 sounds", 16, x.led(0));
        due("how many", 16, x.result(-1));
        due("the first", 0, x.result(0));
        due("the second", 7, x.result(1));
        due("the last but one", 0, x.result(14));
        due("the last", 7, x.result(15));
        due("a 17th", NONE, x.result(16));
        due("-2", NONE, x.result(-2));
        due("least", NONE, x.result(LEAST));
        due("greatest", NONE, x.result(GREATEST));
        dueResult(x, "led", "0717273747576707");
    }

    private static void led() {
        by(16, "LONG: it is led NOWHERE (what was led before stays).");
        SoundDesk x = sounds(2);
        due("no tongues", BEYOND, x.led(0));
        doubling(x, 1);
        tongueOf(x, -1, 0);
        tongueOf(x, 0, 0);
        sayWord(x, "0000");
        due("just 16 sounds", 16, x.led(1));
        x.say(0);
        due("five are too many", LONG, x.led(1));
        due("the result stays", 16, x.result(-1));
        due("its laws stay", 2, x.told(5));
        due("its places stay", 8, x.places(1));
        due("its steps stay", 8, x.step(0));
        due("the word stays", 5, x.told(4));
        due("ten by one law", 10, x.led(0));
        due("one law now", 1, x.told(5));
        due("tongue -1", BEYOND, x.led(-1));
        due("tongue 2", BEYOND, x.led(2));
        SoundDesk y = sounds(1);
        doubling(y, 0);
        tongueOf(y, -1, 0, 0, 0, 0, 0);
        y.say(0);
        due("nowhere at first", LONG, y.led(0));
        due("nothing was led still", 0, y.told(5));
        due("no step of it", NONE, y.step(0));
        due("no place of it", NONE, y.places(0));
    }

    private static void stepAndPlaces() {
        by(17, "NONE: nothing was led, or it had not so many laws.");
        SoundDesk x = sounds(2);
        due("nothing was led", NONE, x.step(0));
        due("nothing was led", NONE, x.step(-1));
        int law = lawOf(x, ONCE, 0);
        x.becomes(law, BECOMES, 1);
        for (int t = 0; t < 6; t++) {
            tongueOf(x, t - 1, law, law, law, law, law, law);
        }
        dueLed(x, 5, "0000000", "1111111");
        due("step(-1)", NONE, x.step(-1));
        due("step(0)", 7, x.step(0));
        dueResult(x, "step(0)", "1000000");
        due("step(5)", 7, x.step(5));
        dueResult(x, "step(5)", "1111110");
        due("step(35), the last", 7, x.step(35));
        dueResult(x, "step(35)", "1111111");
        x.step(1);
        due("step(36)", NONE, x.step(36));
        due("step greatest", NONE, x.step(GREATEST));
        due("step least", NONE, x.step(LEAST));
        dueResult(x, "no such step", "1100000");
        by(18, "at how many places its k-th law changed, dropped or followed a sound (also one that became itself). NONE.");
        due("places(-1)", NONE, x.places(-1));
        due("places(0)", 1, x.places(0));
        due("places(6)", 1, x.places(6));
        due("places(7)", 0, x.places(7));
        due("places(35), the last", 0, x.places(35));
        due("places(36)", NONE, x.places(36));
        due("places greatest", NONE, x.places(GREATEST));
        due("places least", NONE, x.places(LEAST));
        SoundDesk y = sounds(1);
        due("nothing was led", NONE, y.places(0));
        tongueOf(y, -1);
        due("led by no laws", 0, y.led(0));
        due("it had no laws", NONE, y.places(0));
        due("it had no laws", NONE, y.step(0));
        tongueOf(y, -1, turning(y, 0, 0), doubling(y, 0), 0, y.law(PLAIN), 0);
        dueLed(y, 1, "00000000", "");
        int[] places = {8, 8, 16, 16, 0};
        for (int k = 0; k < places.length; k++) {
            due("places(" + k + ")", places[k], y.places(k));
        }
        due("the step that drops all", 0, y.step(3));
    }

    // ---- backward, alike

    /** Leads "0000", and it alone of the words of at most four sounds 0, to 17 sounds; all others to none. */
    private static int longFromFourOn(SoundDesk x) {
        int twice = doubling(x, 0);
        int oneMore = x.law(ONCE);
        x.becomes(oneMore, FOLLOWED, 0);
        return tongueOf(x, -1, twice, twice, oneMore, x.law(PLAIN));
    }

    private static void back() {
        by(19, "the first one is THE RESULT (it stays, when there is none). BEYOND: no such tongue, or most is not 0 to 4.");
        SoundDesk x = sounds(2);
        due("no tongues", BEYOND, x.back(0, 0));
        tongueOf(x, -1, turning(x, 0, 1));
        tongueOf(x, -1);
        dueLed(x, 1, "01", "01");
        sayWord(x, "1111");
        due("most 3", 0, x.back(0, 3));
        dueResult(x, "none of three", "01");
        due("most 4", 16, x.back(0, 4));
        dueResult(x, "the first of four", "0000");
        sayWord(x, "11111");
        due("five sounds", 0, x.back(0, 4));
        dueResult(x, "none of five", "0000");
        due("most -1", BEYOND, x.back(0, -1));
        due("most 5", BEYOND, x.back(0, 5));
        due("tongue -1", BEYOND, x.back(-1, 4));
        due("tongue 2", BEYOND, x.back(2, 4));
        dueResult(x, "a finding", "0000");
        x.hush();
        due("most 0", 1, x.back(0, 0));
        dueResult(x, "the empty word", "");
        SoundDesk y = sounds(8);
        tongueOf(y, -1);
        sayWord(y, "7777");
        due("the last of all words", 1, y.back(0, 4));
        dueResult(y, "the last of all words", "7777");
        SoundDesk z = sounds(1);
        longFromFourOn(z);
        due("all but the one that is led nowhere", 4, z.back(0, 4));
        due("all of three", 4, z.back(0, 3));
    }

    private static void differ() {
        by(20, "BEYOND: no such tongue (either), or most is not 0 to 4. NONE: there is none.");
        SoundDesk x = sounds(1);
        due("no tongues", BEYOND, x.differ(0, 0, 0));
        longFromFourOn(x);
        due("one tongue", BEYOND, x.differ(0, 1, 4));
        tongueOf(x, -1, 2);
        tongueOf(x, -1);
        dueLed(x, 2, "00", "00");
        due("alike up to three sounds", NONE, x.differ(0, 1, 3));
        dueResult(x, "none", "00");
        due("not of four", 4, x.differ(0, 1, 4));
        dueResult(x, "the last word", "0000");
        due("the other way round", 4, x.differ(1, 0, 4));
        due("alike of the empty word", NONE, x.differ(0, 2, 0));
        due("not of one sound", 1, x.differ(0, 2, 1));
        dueResult(x, "the first word", "0");
        due("a tongue and itself, nowhere too", NONE, x.differ(0, 0, 4));
        due("most -1", BEYOND, x.differ(0, 2, -1));
        due("most 5", BEYOND, x.differ(0, 2, 5));
        due("tongue -1", BEYOND, x.differ(-1, 0, 4));
        due("other -1", BEYOND, x.differ(0, -1, 4));
        due("tongue 3", BEYOND, x.differ(3, 0, 4));
        due("other 3", BEYOND, x.differ(0, 3, 4));
        dueResult(x, "findings", "0");
        SoundDesk y = sounds(2);
        tongueOf(y, -1, lawOf(y, PLAIN, 1));
        tongueOf(y, -1);
        due("the empty word can be one", 1, y.differ(0, 1, 4));
        dueResult(y, "the second sound", "1");
        SoundDesk z = new SoundDesk();
        z.law(PLAIN);
        tongueOf(z, -1, 0);
        tongueOf(z, -1);
        due("no sounds", NONE, z.differ(0, 1, 4));
    }

    private static void loses() {
        by(21, "(NOWHERE is no word); the first of them is THE RESULT (it stays, when there is none). BEYOND as of back().");
        SoundDesk x = sounds(1);
        due("no tongues", BEYOND, x.loses(0, 0));
        longFromFourOn(x);
        tongueOf(x, -1);
        tongueOf(x, -1, 0, 0, 0, 0, 0);
        dueLed(x, 1, "00", "00");
        due("none of the empty word", 0, x.loses(0, 0));
        due("none without laws", 0, x.loses(1, 4));
        due("nowhere is no word, though four are led there", 0, x.loses(2, 4));
        dueResult(x, "none", "00");
        due("of one sound", 1, x.loses(0, 1));
        dueResult(x, "the first", "0");
        due("of three sounds", 3, x.loses(0, 3));
        due("of four sounds: nowhere is no word", 3, x.loses(0, 4));
        due("most -1", BEYOND, x.loses(0, -1));
        due("most 5", BEYOND, x.loses(0, 5));
        due("tongue -1", BEYOND, x.loses(-1, 0));
        due("tongue 3", BEYOND, x.loses(3, 0));
        dueResult(x, "findings", "0");
        SoundDesk y = sounds(8);
        int last = lawOf(y, ONCE, 7);
        y.set(last, LEFT, EDGE, 0, 0);
        y.set(last, RIGHT, EDGE, 0, 0);
        y.becomes(last, BECOMES, 6);
        tongueOf(y, -1, last);
        due("one word of 4681", 1, y.loses(0, 4));
        dueResult(y, "that one", "7");
        y.set(last, LEFT, SOUND, 128, 0);
        due("all that end with 77, the last word too", 1 + 8 + 64, y.loses(0, 4));
        dueResult(y, "the first of them", "77");
    }

    private static void stand() {
        by(22, "BEYOND: no such tongue, or not both laws, or most is not 0 to 4.");
        SoundDesk x = sounds(4);
        due("no tongues", BEYOND, x.stand(0, 0, 0));
        int feeding = lawOf(x, PLAIN, 0);
        x.set(feeding, LEFT, SOUND, 4, 0);
        x.becomes(feeding, BECOMES, 1);
        int fed = lawOf(x, PLAIN, 0);
        x.set(fed, LEFT, SOUND, 2, 0);
        x.set(fed, RIGHT, SOUND, 8, 0);
        x.becomes(fed, BECOMES, 1);
        tongueOf(x, -1, feeding, feeding, feeding, feeding, feeding, fed);
        tongueOf(x, 0, fed);
        tongueOf(x, -1);
        dueLed(x, 2, "3", "3");
        due("k -1", BEYOND, x.stand(0, -1, 4));
        due("k 0", 0, x.stand(0, 0, 4));
        due("k 4, the last pair", 5, x.stand(0, 4, 4));
        due("only 2003 tells it: of three sounds IDLE", 0, x.stand(0, 4, 3));
        due("of the empty word IDLE", 0, x.stand(0, 4, 0));
        due("k 5, the last law alone", BEYOND, x.stand(0, 5, 4));
        due("k + 1 wraps around", BEYOND, x.stand(0, GREATEST, 4));
        due("k least", BEYOND, x.stand(0, LEAST, 4));
        due("one own law", BEYOND, x.stand(1, 0, 4));
        due("no own laws", BEYOND, x.stand(2, 0, 4));
        due("most -1", BEYOND, x.stand(0, 4, -1));
        due("most 5", BEYOND, x.stand(0, 4, 5));
        due("tongue -1", BEYOND, x.stand(-1, 0, 4));
        due("tongue 3", BEYOND, x.stand(3, 0, 4));
        dueResult(x, "the result stays", "3");
        standings();
    }

    private static void standings() {
        by(22, "otherwise 4, and 1 more if for some word B changes more places behind A than of the word itself, "
                + "and 2 more if for some word it changes fewer");
        SoundDesk x = sounds(3);
        int dropAll = x.law(PLAIN);
        int byOne = doubling(x, 1);
        int byTwo = doubling(x, 2);
        int same = turning(x, 0, 0);
        tongueOf(x, -1, byOne, byTwo, byOne, same, dropAll, same);
        due("twice as many places, up to 16 sounds", 5, x.stand(0, 0, 4));
        due("the same the other way round", 5, x.stand(0, 1, 4));
        due("it became itself: IDLE, though places are counted", 0, x.stand(0, 2, 4));
        due("fewer places, but both lead to none: IDLE", 0, x.stand(0, 4, 4));
        due("more places of one sound on", 5, x.stand(0, 0, 1));
        int zeroToOne = turning(x, 0, 1);
        int oneToTwo = turning(x, 1, 2);
        int oneDropped = lawOf(x, PLAIN, 1);
        tongueOf(x, -1, oneToTwo, zeroToOne);
        due("as many places", 4, x.stand(1, 0, 4));
        tongueOf(x, -1, zeroToOne, oneToTwo);
        due("more places", 5, x.stand(2, 0, 1));
        due("of the empty word alone IDLE", 0, x.stand(2, 0, 0));
        tongueOf(x, -1, oneToTwo, oneDropped);
        due("fewer places", 6, x.stand(3, 0, 1));
        int afterNoOne = lawOf(x, PLAIN, 1);
        x.set(afterNoOne, LEFT, SOUND, 0, 2);
        tongueOf(x, -1, zeroToOne, afterNoOne);
        due("more of 20, fewer of 01", 7, x.stand(4, 0, 2));
        due("IDLE of one sound", 0, x.stand(4, 0, 1));
        SoundDesk y = sounds(2);
        int first = turning(y, 1, 0);
        y.set(first, LEFT, EDGE, 0, 0);
        y.set(first, RIGHT, SOUND, 2, 0);
        int second = lawOf(y, PLAIN, 1);
        y.set(second, LEFT, SOUND, 1, 0);
        y.set(second, RIGHT, EDGE, 0, 0);
        tongueOf(y, -1, first, second);
        due("11 alone tells it, the last word of two sounds", 5, y.stand(0, 0, 2));
        due("IDLE of one sound", 0, y.stand(0, 0, 1));
    }

    // ---- meanings

    private static void meaningAndForm() {
        by(23, "A new meaning without forms: its number. FULL: there are 8.");
        SoundDesk x = sounds(2);
        due("no meanings", BEYOND, x.form(0, 0));
        for (int i = 0; i < 8; i++) {
            due("meaning " + i, i, x.meaning());
            due("it has no forms", NONE, x.some(i, 0));
        }
        due("a ninth", FULL, x.meaning());
        due("told(3)", 8, x.told(3));
        by(24, "in place of what was: how many forms the meaning has. BEYOND: no such meaning, or tongue.");
        due("no tongues", BEYOND, x.form(0, 0));
        for (int t = 0; t < 6; t++) {
            x.tongue(-1);
        }
        sayWord(x, "01010101");
        for (int t = 5; t >= 0; t--) {
            due("a form in tongue " + t, 6 - t, x.form(7, t));
        }
        due("the last one again", 6, x.form(7, 0));
        x.hush();
        due("the empty word in place of it", 6, x.form(7, 0));
        due("eight gaps", 24, x.match(7, 0, 1));
        due("meaning -1", BEYOND, x.form(-1, 0));
        due("meaning 8", BEYOND, x.form(8, 0));
        due("tongue -1", BEYOND, x.form(7, -1));
        due("tongue 6", BEYOND, x.form(7, 6));
        due("the first meaning has none", 1, x.form(0, 5));
    }

    private static void roots() {
        by(25, "the first is THE RESULT (it stays, when there is none). BEYOND: no such meaning, or most is not 0 to 4.");
        SoundDesk x = sounds(2);
        due("no meanings", BEYOND, x.roots(0, 0));
        x.meaning();
        x.meaning();
        due("no tongues, no form", 0, x.roots(0, 4));
        tongueOf(x, -1, turning(x, 0, 1));
        tongueOf(x, -1);
        dueLed(x, 1, "01", "01");
        due("no form", 0, x.roots(0, 4));
        tellForm(x, 0, 0, "1111");
        due("most 3", 0, x.roots(0, 3));
        dueResult(x, "none", "01");
        due("most 4", 16, x.roots(0, 4));
        dueResult(x, "the first", "0000");
        tellForm(x, 0, 1, "1111");
        due("the last of all words", 1, x.roots(0, 4));
        dueResult(x, "the last of all words", "1111");
        tellForm(x, 0, 1, "11111");
        due("a form of five sounds", 0, x.roots(0, 4));
        dueResult(x, "none", "1111");
        tellForm(x, 1, 0, "");
        due("most 0", 1, x.roots(1, 0));
        dueResult(x, "the empty word", "");
        due("most -1", BEYOND, x.roots(1, -1));
        due("most 5", BEYOND, x.roots(1, 5));
        due("meaning -1", BEYOND, x.roots(-1, 0));
        due("meaning 2", BEYOND, x.roots(2, 0));
        SoundDesk y = sounds(1);
        longFromFourOn(y);
        y.meaning();
        y.form(0, 0);
        due("nowhere is not the empty word", 4, y.roots(0, 4));
    }

    private static void some() {
        by(26, "The most tongues with a form that lead one of SOME WORDS to their forms; the first such word is THE RESULT.");
        SoundDesk x = sounds(2);
        for (int t = 0; t < 6; t++) {
            x.tongue(-1);
        }
        x.meaning();
        for (int t = 0; t < 6; t++) {
            tellForm(x, 0, t, "1111");
        }
        due("all six, by the last of all words", 6, x.some(0, 4));
        dueResult(x, "the last of all words", "1111");
        due("none of six", 0, x.some(0, 3));
        dueResult(x, "the first of all words leads none of six", "");
        tellForm(x, 0, 5, "0");
        due("five of six", 5, x.some(0, 4));
        dueResult(x, "five of six", "1111");
        due("one of six", 1, x.some(0, 3));
        dueResult(x, "one of six", "0");
        tellForm(x, 0, 4, "1");
        due("one of six, by two words", 1, x.some(0, 1));
        dueResult(x, "the first of two words", "0");
        due("none of six, of the empty word alone", 0, x.some(0, 0));
        by(26, "BEYOND as of roots(). NONE: the meaning has no form.");
        due("meaning -1", BEYOND, x.some(-1, 0));
        due("meaning 1", BEYOND, x.some(1, 0));
        due("most -1", BEYOND, x.some(0, -1));
        due("most 5", BEYOND, x.some(0, 5));
        x.meaning();
        due("no form", NONE, x.some(1, 0));
        due("no form", NONE, x.some(1, 4));
        due("no form, and most 5", BEYOND, x.some(1, 5));
        due("no form, and most -1", BEYOND, x.some(1, -1));
        x.form(1, 3);
        due("one form", 1, x.some(1, 1));
        SoundDesk y = sounds(1);
        longFromFourOn(y);
        tongueOf(y, -1);
        y.meaning();
        tellForm(y, 0, 0, "");
        tellForm(y, 0, 1, "0000");
        due("nowhere is not the empty word", 1, y.some(0, 4));
    }

    private static void explain() {
        by(27, "How many meanings have a ROOT among SOME WORDS. BEYOND: most is not 0 to 4.");
        SoundDesk x = sounds(2);
        due("no meanings", 0, x.explain(4));
        tongueOf(x, -1);
        String[] forms = {"", "0", "1", "01", "110", "111", "1110", "1111"};
        for (int m = 0; m < 8; m++) {
            x.meaning();
        }
        due("no forms", 0, x.explain(4));
        for (int m = 0; m < 8; m++) {
            tellForm(x, m, 0, forms[m]);
        }
        int[] explained = {1, 3, 4, 6, 8};
        for (int most = 0; most <= 4; most++) {
            due("most " + most, explained[most], x.explain(most));
        }
        due("most -1", BEYOND, x.explain(-1));
        due("most 5", BEYOND, x.explain(5));
        tellForm(x, 7, 0, "11111");
        due("a form of five sounds", 7, x.explain(4));
        tellForm(x, 6, 0, "1");
        due("two meanings of the same root", 7, x.explain(4));
    }

    private static void order() {
        by(28, "BEYOND: no such tongue, or most is not 0 to 3. LONG: it has more than 4.");
        SoundDesk x = sounds(2);
        due("no tongues", BEYOND, x.order(0, 0));
        int a = turning(x, 0, 1);
        int b = turning(x, 1, 0);
        tongueOf(x, -1);
        tongueOf(x, -1);
        x.meaning();
        tellForm(x, 0, 0, "111");
        tellForm(x, 0, 1, "111");
        due("no own laws", 1, x.order(0, 3));
        due("most 2", 0, x.order(0, 2));
        due("most -1", BEYOND, x.order(0, -1));
        due("most 4", BEYOND, x.order(0, 4));
        x.give(0, a);
        due("one own law", 1, x.order(0, 3));
        x.give(0, b);
        due("of two the last order", 1, x.order(0, 3));
        dueRow(x, 0, b, a);
        x.swap(0, 0);
        due("explained by none: as they stand", 0, x.order(0, 2));
        dueRow(x, 0, a, b);
        due("of the empty word alone: as they stand", 0, x.order(0, 0));
        x.give(0, a);
        x.give(0, b);
        due("four own laws", 1, x.order(0, 3));
        dueRow(x, 0, a, b, b, a);
        x.give(0, b);
        due("five own laws", LONG, x.order(0, 3));
        due("five own laws, most 4", BEYOND, x.order(0, 4));
        due("five own laws, most -1", BEYOND, x.order(0, -1));
        dueRow(x, 0, a, b, b, a, b);
        due("tongue -1", BEYOND, x.order(-1, 0));
        due("tongue 2", BEYOND, x.order(2, 0));
        int child = tongueOf(x, 0, a, b, a, b);
        due("four own laws, and five of its parent", 0, x.order(child, 3));
        orders();
    }

    private static void orders() {
        by(28, "the first order is as they stand, the next one the next greater row of places");
        SoundDesk x = sounds(5);
        tongueOf(x, -1);
        tongueOf(x, -1);
        for (int i = 0; i < 4; i++) {
            int law = x.law(PLAIN);
            x.set(law, RIGHT, EDGE, 0, 0);
            x.becomes(law, FOLLOWED, i);
            x.give(0, law);
        }
        x.meaning();
        tellForm(x, 0, 1, "4");
        dueLed(x, 1, "22", "22");
        dueOrder(x, "40123", 0, 1, 2, 3);
        dueOrder(x, "43210", 3, 2, 1, 0);
        dueOrder(x, "43210", 3, 2, 1, 0);
        dueOrder(x, "40123", 0, 1, 2, 3);
        dueOrder(x, "40132", 0, 1, 3, 2);
        dueOrder(x, "41023", 1, 0, 2, 3);
        dueResult(x, "order leaves it", "22");
        tellForm(x, 0, 0, "4");
        due("none is greatest: as they stand", 0, x.order(0, 1));
        dueRow(x, 0, 1, 0, 2, 3);
        x.becomes(3, DROPPED, 0);
        tellForm(x, 0, 0, "412");
        due("2 at its end, which 3 drops: 3 ahead of it", 1, x.order(0, 1));
        dueRow(x, 0, 1, 0, 3, 2);
    }

    private static void dueOrder(SoundDesk x, String form, int... row) {
        tellForm(x, 0, 0, form);
        due("order for " + form, 1, x.order(0, 1));
        dueRow(x, 0, row);
    }

    private static void few() {
        by(29, "BEYOND: no such tongue, or most is not 0 to 3. LONG: it has more than 4.");
        SoundDesk x = sounds(2);
        due("no tongues", BEYOND, x.few(0, 0));
        int a = turning(x, 0, 1);
        tongueOf(x, -1);
        tongueOf(x, -1);
        x.meaning();
        tellForm(x, 0, 0, "111");
        tellForm(x, 0, 1, "000");
        due("no own laws", 0, x.few(0, 3));
        x.give(0, a);
        due("one own law, of three sounds", 1, x.few(0, 3));
        due("of two sounds nothing is explained", 0, x.few(0, 2));
        due("of the empty word alone", 0, x.few(0, 0));
        due("most -1", BEYOND, x.few(0, -1));
        due("most 4", BEYOND, x.few(0, 4));
        x.give(0, a);
        x.give(0, a);
        x.give(0, a);
        due("four own laws: the least number of those with one", 1, x.few(0, 3));
        dueRow(x, 0, a, a, a, a);
        x.give(0, a);
        due("five own laws", LONG, x.few(0, 3));
        due("five own laws, most 4", BEYOND, x.few(0, 4));
        due("five own laws, most -1", BEYOND, x.few(0, -1));
        due("tongue -1", BEYOND, x.few(-1, 0));
        due("tongue 2", BEYOND, x.few(2, 0));
        int child = tongueOf(x, 0, a, a, a, a);
        due("four own laws, and five of its parent", 0, x.few(child, 3));
        fewest();
    }

    private static void fewest() {
        by(29, "one with which explain() is not less than with all: with the fewest laws, of these the least number: it.");
        SoundDesk x = sounds(5);
        tongueOf(x, -1, turning(x, 0, 1), turning(x, 1, 2), turning(x, 2, 3), turning(x, 3, 4));
        tongueOf(x, -1);
        x.meaning();
        int[] needed = {15, 14, 12, 8, 0};
        for (int from = 0; from < 5; from++) {
            tellForm(x, 0, 0, "4");
            tellForm(x, 0, 1, Integer.toString(from));
            due("from " + from + " to 4", needed[from], x.few(0, 1));
        }
        dueRow(x, 0, 0, 1, 2, 3);
        dueLed(x, 1, "22", "22");
        SoundDesk y = sounds(3);
        int zeroToOne = turning(y, 0, 1);
        int oneToTwo = turning(y, 1, 2);
        int zeroToTwo = turning(y, 0, 2);
        tongueOf(y, -1, zeroToOne, oneToTwo, zeroToTwo);
        tongueOf(y, -1);
        y.meaning();
        tellForm(y, 0, 0, "2");
        tellForm(y, 0, 1, "0");
        due("one law, not the lower number with two", 4, y.few(0, 1));
        SoundDesk z = sounds(2);
        tongueOf(z, -1, turning(z, 0, 1));
        tongueOf(z, -1);
        z.meaning();
        tellForm(z, 0, 0, "0");
        tellForm(z, 0, 1, "0");
        due("nothing is explained with all", 0, z.explain(3));
        due("more is explained with none", 0, z.few(0, 3));
    }

    private static void cost() {
        by(30, "What a gap costs, from now on (3 at first): what it was. BEYOND: it is not 0 to 99.");
        SoundDesk x = new SoundDesk();
        due("-1", BEYOND, x.cost(-1));
        due("100", BEYOND, x.cost(100));
        due("3 at first", 3, x.cost(0));
        due("0", 0, x.cost(99));
        due("99", 99, x.cost(99));
        due("100", BEYOND, x.cost(100));
        due("99 still", 99, x.cost(1));
    }

    private static void match() {
        by(31, "side by side with each other or with a gap, with the least sum of costs: that sum.");
        SoundDesk x = new SoundDesk();
        x.sound(0, 255, 0);
        x.sound(0, 0, 255);
        x.sound(0, 0, 0);
        x.sound(0, -1, -1);
        tongueOf(x, -1);
        tongueOf(x, -1);
        x.meaning();
        dueMatch(x, "", "", 0);
        dueMatch(x, "", "0", 3);
        dueMatch(x, "", "01230123", 24);
        dueMatch(x, "01230123", "01230123", 0);
        dueMatch(x, "00000000", "11111111", 48);
        dueMatch(x, "01111111", "11111110", 6);
        x.cost(99);
        dueMatch(x, "", "01230123", 792);
        dueMatch(x, "00000000", "11111111", 72);
        x.cost(0);
        dueMatch(x, "00000000", "11111111", 0);
        by(31, "A sound with itself costs 0, with another one 1 and 1 more for each mark that is yes of one and no of the other.");
        x.cost(5);
        dueMatch(x, "0", "0", 0);
        dueMatch(x, "3", "3", 0);
        dueMatch(x, "0", "1", 9);
        dueMatch(x, "0", "2", 1);
        dueMatch(x, "1", "2", 1);
        dueMatch(x, "1", "3", 1);
        dueMatch(x, "2", "3", 1);
        x.cost(4);
        dueMatch(x, "0", "1", 8);
        by(31, "BEYOND: no such meaning, or tongue (either). NONE: one has no form of it.");
        due("meaning -1", BEYOND, x.match(-1, 0, 1));
        due("meaning 1", BEYOND, x.match(1, 0, 1));
        due("tongue -1", BEYOND, x.match(0, -1, 1));
        due("tongue 2", BEYOND, x.match(0, 2, 1));
        due("other -1", BEYOND, x.match(0, 0, -1));
        due("other 2", BEYOND, x.match(0, 0, 2));
        x.meaning();
        due("no form", NONE, x.match(1, 0, 1));
        due("no form, and no such tongue", BEYOND, x.match(1, 0, 2));
        x.form(1, 0);
        due("one form", NONE, x.match(1, 0, 1));
        due("one form, the other way round", NONE, x.match(1, 1, 0));
        due("one form with itself", 0, x.match(1, 0, 0));
        due("the one that is not there with itself", NONE, x.match(1, 1, 1));
    }

    private static void dueMatch(SoundDesk x, String one, String two, int want) {
        tellForm(x, 0, 0, one);
        tellForm(x, 0, 1, two);
        due("'" + one + "' with '" + two + "'", want, x.match(0, 0, 1));
        due("'" + two + "' with '" + one + "'", want, x.match(0, 1, 0));
    }

    // ---- checking, keeping

    private static void put() {
        by(32, "One more number waits: how many. FULL: 300 wait.");
        SoundDesk x = new SoundDesk();
        due("least", 1, x.put(LEAST));
        due("greatest", 2, x.put(GREATEST));
        due("-1", 3, x.put(-1));
        for (int i = 4; i <= 300; i++) {
            due("number " + i, i, x.put(0));
        }
        due("a 301st", FULL, x.put(0));
        due("told(6)", 300, x.told(6));
        x.tongue(-1);
        x.check(0);
        due("the first again", 1, x.put(0));
    }

    private static void check() {
        by(33, "0: they are just what THE WORD is led through;");
        SoundDesk x = sounds(3);
        due("no tongues", BEYOND, x.check(0));
        int turn = turning(x, 0, 2);
        int drop = lawOf(x, PLAIN, 1);
        tongueOf(x, -1, turn);
        tongueOf(x, 0, drop);
        tongueOf(x, -1);
        sayWord(x, "10");
        dueCheck(x, 1, 0, 2, 1, 2, 1, 2);
        dueCheck(x, 2, 0);
        by(33, "for the first law (k from 0) whose step is not told rightly (cut ones, too);");
        dueCheck(x, 1, 1);
        dueCheck(x, 1, 1, 2);
        dueCheck(x, 1, 1, 2, 1);
        dueCheck(x, 1, 2, 2, 1, 2);
        dueCheck(x, 1, 2, 2, 1, 2, 1);
        dueCheck(x, 1, 1, 1, 1, 2, 1, 2);
        dueCheck(x, 1, 1, 3, 1, 2, 1, 2);
        dueCheck(x, 1, 1, 2, 0, 2, 1, 2);
        dueCheck(x, 1, 1, 2, 1, 0, 1, 2);
        dueCheck(x, 1, 2, 2, 1, 2, 0, 2);
        dueCheck(x, 1, 2, 2, 1, 2, 2, 2);
        dueCheck(x, 1, 2, 2, 1, 2, 1, 0);
        dueCheck(x, 1, 1, 2, 1, 10);
        dueCheck(x, 1, 1, GREATEST, 1, 2, 1, 2);
        dueCheck(x, 1, 1, LEAST, 1, 2, 1, 2);
        dueCheck(x, 1, 2, 2, 1, 2, GREATEST, 2);
        dueCheck(x, 1, 2, 2, 1, 2, -1);
        dueCheck(x, 1, 1, 2, 1, GREATEST, 1, 2);
        dueCheck(x, 1, 2, 2, 1, 2, 1, -6);
        by(33, "the number of laws and 1 when more is told behind them, or, without laws, anything.");
        dueCheck(x, 1, 3, 2, 1, 2, 1, 2, 0);
        dueCheck(x, 1, 3, 2, 1, 2, 1, 2, LEAST);
        dueCheck(x, 1, 3, 2, 1, 2, 1, 2, 1, 2);
        dueCheck(x, 0, 2, 2, 1, 2, 1, 2);
        dueCheck(x, 2, 1, 0);
        dueCheck(x, 2, 1, 2, 1, 0);
        dueCheck(x, 2, 1, -1);
        checkEmptied();
        checkFull();
    }

    private static void dueCheck(SoundDesk x, int tongue, int want, int... numbers) {
        puts(x, numbers);
        due("check of " + java.util.Arrays.toString(numbers), want, x.check(tongue));
        due("numbers that wait then", 0, x.told(6));
    }

    private static void checkEmptied() {
        by(33, "LONG: THE WORD is led NOWHERE. (The numbers are gone also then.)");
        SoundDesk x = sounds(1);
        int twice = doubling(x, 0);
        int drop = x.law(PLAIN);
        tongueOf(x, -1, twice, twice, twice, twice, twice);
        tongueOf(x, -1, twice, twice, twice, twice, drop);
        x.say(0);
        dueCheck(x, 0, LONG, 2, 0, 0);
        dueCheck(x, 0, LONG);
        dueCheck(x, 2, BEYOND, 2, 0, 0);
        dueCheck(x, -1, BEYOND, 2, 0, 0);
        dueCheck(x, 1, 2, 2, 0, 0);
        x.hush();
        dueCheck(x, 0, 0, 0, 0, 0, 0, 0);
        dueCheck(x, 0, 5, 0, 0, 0, 0);
        dueCheck(x, 0, 6, 0, 0, 0, 0, 0, 0);
        due("nothing was led by it", 0, x.told(5));
        due("the result stays", 0, x.result(-1));
    }

    /** All laws that there can be: with seven sounds 288 numbers, with eight 324, of which 300 can wait. */
    private static void checkFull() {
        by(33, "for each law of a tongue, in order, how many sounds the word has behind it, and these sounds.");
        SoundDesk x = thirtySixLaws("0000000");
        for (int i = 0; i < 288; i++) {
            x.put(i % 8 == 0 ? 7 : 0);
        }
        due("36 steps of seven sounds", 0, x.check(5));
        SoundDesk y = thirtySixLaws("0000000");
        for (int i = 0; i < 289; i++) {
            y.put(i % 8 == 0 ? 7 : 0);
        }
        due("one number more", 37, y.check(5));
        SoundDesk z = thirtySixLaws("00000000");
        for (int i = 0; i < 300; i++) {
            z.put(i % 9 == 0 ? 8 : 0);
        }
        due("33 steps of eight sounds, and the 34th is cut", 34, z.check(5));
    }

    private static SoundDesk thirtySixLaws(String word) {
        SoundDesk x = sounds(1);
        int same = turning(x, 0, 0);
        for (int t = 0; t < 6; t++) {
            tongueOf(x, t - 1, same, same, same, same, same, same);
        }
        sayWord(x, word);
        return x;
    }

    private static void keepAndAgain() {
        by(34, "All (but numbers that wait, and what is kept) is kept, in place of what was: 1.");
        SoundDesk x = new SoundDesk();
        due("nothing is there", 1, x.keep());
        x.sound(0, 0, 0);
        x.law(0);
        x.becomes(0, BECOMES, 0);
        tongueOf(x, -1, 0);
        x.meaning();
        x.say(0);
        x.led(0);
        x.form(0, 0);
        x.cost(9);
        x.put(4);
        due("as new", 1, x.again());
        for (int what = 0; what < 6; what++) {
            due("told(" + what + ")", 0, x.told(what));
        }
        due("numbers wait still", 1, x.told(6));
        due("the result", 0, x.result(-1));
        due("the gap", 3, x.cost(3));
        due("a new sound is the first", 0, x.sound(0, 0, 0));
        due("again, as new", 1, x.again());
        due("no sounds", 0, x.told(0));
        keptRows();
        keptFull();
        by(35, "All is as it was kept (which stays): 1. NONE: nothing is kept.");
        SoundDesk y = sounds(1);
        due("nothing is kept", NONE, y.again());
        y.keep();
        due("kept", 1, y.again());
        y.say(0);
        due("kept still", 1, y.again());
        due("the word is empty", 0, y.told(4));
        y.say(0);
        y.keep();
        y.say(0);
        due("the later one", 1, y.again());
        due("one sound", 1, y.told(4));
        y.hush();
        due("the later one stays", 1, y.again());
        due("one sound", 1, y.told(4));
    }

    /** A missing row is kept as missing, and one that came later is forgotten with its sound. */
    private static void keptRows() {
        SoundDesk x = new SoundDesk();
        x.sound(STOP, -1, -1);
        x.keep();
        x.sound(STOP, -1, -1);
        due("missing", MISSING, x.mark(1, 0));
        x.again();
        due("kept as missing", MISSING, x.mark(0, 0));
        due("another second sound", 1, x.sound(STOP, 1, 2));
        due("its row is told", 1, x.mark(1, 0));
        due("its row is told", 0, x.mark(1, 1));
        due("its row is told", 2, x.mark(1, 2));
        x.again();
        due("a third second sound", 1, x.sound(STOP, -1, -1));
        due("missing again", MISSING, x.mark(1, 0));
    }

    private static void keptFull() {
        SoundDesk x = sounds(8);
        for (int i = 0; i < 16; i++) {
            x.law(i % 4);
        }
        for (int t = 0; t < 6; t++) {
            tongueOf(x, t - 1, 15, 15, 15, 15, 15, 15);
        }
        sayWord(x, "01234567");
        for (int m = 0; m < 8; m++) {
            x.meaning();
            x.form(m, 5);
        }
        x.led(0);
        x.led(5);
        x.keep();
        x.set(15, TARGET, SOUND, 128, 0);
        x.becomes(15, BECOMES, 0);
        x.hush();
        x.form(7, 5);
        x.led(0);
        x.again();
        int[] counts = {8, 16, 6, 8, 8, 36};
        for (int what = 0; what < counts.length; what++) {
            due("full, told(" + what + ")", counts[what], x.told(what));
        }
        due("the last step", 0, x.step(35));
        due("the step of the last sound", 1, x.step(6));
        dueResult(x, "that step", "7");
        due("its places", 1, x.places(7));
        due("the last law is as it was", 2, x.led(0));
        dueResult(x, "led", "67");
        due("the last form is as it was", 1, x.form(7, 5));
        x.hush();
        x.form(7, 0);
        due("eight sounds with none", 24, x.match(7, 0, 5));
        due("a ninth sound", FULL, x.sound(0, 0, 0));
        due("a 17th law", FULL, x.law(0));
        due("a seventh tongue", FULL, x.tongue(-1));
        due("a seventh own law", FULL, x.give(5, 0));
        due("a ninth meaning", FULL, x.meaning());
    }

    private static void told() {
        by(36, "5 laws of what was led latest (0: nothing was), 6 numbers that wait, 7 how many acts answered a finding "
                + "ever (this one, too, if it does; it goes on with again()).");
        SoundDesk x = sounds(1);
        due("-1", BEYOND, x.told(-1));
        due("one finding", 1, x.told(7));
        due("8", BEYOND, x.told(8));
        due("two findings", 2, x.told(7));
        x.keep();
        due("least", BEYOND, x.told(LEAST));
        due("greatest", BEYOND, x.told(GREATEST));
        x.put(1);
        x.again();
        due("four findings, behind again() too", 4, x.told(7));
        due("one number waits, behind again() too", 1, x.told(6));
        due("nothing was led", 0, x.told(5));
        x.law(PLAIN);
        tongueOf(x, -1);
        tongueOf(x, 0, 0);
        tongueOf(x, 1, 0, 0);
        x.led(2);
        due("three laws", 3, x.told(5));
        x.led(1);
        due("one law", 1, x.told(5));
        x.led(0);
        due("no laws", 0, x.told(5));
        due("told() of them is no finding", 4, x.told(7));
        by(36, "BEYOND: another what.");
        for (int what = 0; what < 8; what++) {
            due("told(" + what + ") is no finding", 1, x.told(what) >= 0 ? 1 : 0);
        }
        due("8", BEYOND, x.told(8));
        due("-1", BEYOND, x.told(-1));
    }
}
