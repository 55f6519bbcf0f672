/** For each promise of the document: ordinary inputs, the edges that it names, and wrong inputs. */
public final class PromisesTest extends DeskChecks {
    public static void main(String[] args) {
        newObject();
        sound();
        mark();
        as();
        law();
        set();
        setFits();
        becomes();
        lawKinds();
        tongue();
        give();
        swap();
        laws();
        lawAt();
        say();
        hush();
        result();
        led();
        step();
        places();
        back();
        differ();
        loses();
        stand();
        meaning();
        form();
        roots();
        some();
        explain();
        order();
        few();
        cost();
        match();
        put();
        check();
        keepAndAgain();
        told();
        finish("promises");
    }

    // ---- the promises

    private static void newObject() {
        promise = 1;
        SoundDesk x = new SoundDesk();
        for (int what = 0; what < 8; what++) {
            due("told(" + what + ") of a new object", 0, x.told(what));
        }
        due("result(-1)", 0, x.result(-1));
        due("hush()", 0, x.hush());
        due("result(0)", NONE, x.result(0));
        due("step(0)", NONE, x.step(0));
        due("places(0)", NONE, x.places(0));
        due("again()", NONE, x.again());
        due("mark(0, 0)", BEYOND, x.mark(0, 0));
        due("set(0, ..)", BEYOND, x.set(0, 0, 0, 0, 0));
        due("laws(0)", BEYOND, x.laws(0));
        due("roots(0, 0)", BEYOND, x.roots(0, 0));
        due("cost(3)", 3, x.cost(3));
    }

    private static void sound() {
        promise = 2;
        SoundDesk x = new SoundDesk();
        due("kind -1", BEYOND, x.sound(-1, 0, 0));
        due("kind 5", BEYOND, x.sound(5, 0, 0));
        due("kind 5, missing", BEYOND, x.sound(5, -1, -1));
        due("yes -1 alone", BEYOND, x.sound(0, -1, 0));
        due("no -1 alone", BEYOND, x.sound(0, 0, -1));
        due("both -2", BEYOND, x.sound(0, -2, -2));
        due("yes 256", BEYOND, x.sound(0, 256, 0));
        due("no 256", BEYOND, x.sound(0, 0, 256));
        due("least", BEYOND, x.sound(0, LEAST, 0));
        due("a bit in common", BEYOND, x.sound(0, 6, 12));
        due("told(0)", 0, x.told(0));
        due("the first", 0, x.sound(4, 255, 0));
        due("the second", 1, x.sound(0, 0, 255));
        due("the third, missing", 2, x.sound(3, -1, -1));
        for (int i = 3; i < 8; i++) {
            due("sound " + i, i, x.sound(i % 5, 1, 2));
        }
        due("the ninth", FULL, x.sound(0, 0, 0));
        due("the ninth, missing", FULL, x.sound(0, -1, -1));
        due("the ninth, beyond", BEYOND, x.sound(0, 1, 1));
        due("the ninth, of no kind", BEYOND, x.sound(9, 0, 0));
        due("told(0)", 8, x.told(0));
        due("mark of the first", 1, x.mark(0, 7));
        due("mark of the second", 0, x.mark(1, 7));
    }

    private static void mark() {
        promise = 3;
        SoundDesk x = new SoundDesk();
        x.sound(0, 129, 2);
        x.sound(0, -1, -1);
        due("yes", 1, x.mark(0, 0));
        due("no", 0, x.mark(0, 1));
        due("not told", 2, x.mark(0, 2));
        due("yes of the last", 1, x.mark(0, 7));
        due("mark 8", BEYOND, x.mark(0, 8));
        due("mark -1", BEYOND, x.mark(0, -1));
        due("mark 32", BEYOND, x.mark(0, 32));
        due("missing", MISSING, x.mark(1, 0));
        due("missing ahead of beyond", MISSING, x.mark(1, 8));
        due("no such sound", BEYOND, x.mark(2, 0));
        due("sound -1", BEYOND, x.mark(-1, 0));
        due("least", BEYOND, x.mark(LEAST, LEAST));
    }

    private static void as() {
        promise = 4;
        int[] allowed = {1, 3, 7, 9, 25};
        SoundDesk x = new SoundDesk();
        for (int kind = 0; kind < 5; kind++) {
            x.sound(kind, 0, 0);
        }
        for (int sound = 0; sound < 5; sound++) {
            for (int kind = 0; kind < 5; kind++) {
                boolean is = (allowed[sound] >> kind & 1) == 1;
                due("a sound of kind " + sound + " as " + kind, is ? sound : KIND, x.as(sound, kind));
            }
        }
        due("kind -1", BEYOND, x.as(0, -1));
        due("kind 5", BEYOND, x.as(0, 5));
        due("sound 5", BEYOND, x.as(5, 0));
        due("sound -1", BEYOND, x.as(-1, 0));
    }

    private static void law() {
        promise = 5;
        SoundDesk x = sounds(2);
        due("kind -1", BEYOND, x.law(-1));
        due("kind 4", BEYOND, x.law(4));
        for (int i = 0; i < 16; i++) {
            due("law " + i, i, x.law(i % 4));
        }
        due("the 17th", FULL, x.law(0));
        due("the 17th, beyond", BEYOND, x.law(4));
        due("told(1)", 16, x.told(1));
        tongueOf(x, -1, 0);
        tongueOf(x, -1, 3);
        dueLed(x, 0, "0110", "");
        dueLed(x, 1, "0110", "110");
    }

    private static void set() {
        promise = 6;
        SoundDesk x = sounds(2);
        x.law(PLAIN);
        for (int which = 0; which < 3; which++) {
            for (int kind = 0; kind < 5; kind++) {
                due("set " + which + " of kind " + kind, 0, x.set(0, which, kind, 255, 255));
            }
            due("edge", which == 0 ? BEYOND : 0, x.set(0, which, EDGE, 0, 0));
            due("any", which == 0 ? BEYOND : 0, x.set(0, which, ANY, 0, 0));
            due("edge with yes", BEYOND, x.set(0, which, EDGE, 1, 0));
            due("edge with no", BEYOND, x.set(0, which, EDGE, 0, 1));
            due("any with yes", BEYOND, x.set(0, which, ANY, 1, 0));
            due("any with no", BEYOND, x.set(0, which, ANY, 0, 1));
            due("kind -3", BEYOND, x.set(0, which, -3, 0, 0));
            due("kind 5", BEYOND, x.set(0, which, 5, 0, 0));
            due("yes 256", BEYOND, x.set(0, which, 0, 256, 0));
            due("yes -1", BEYOND, x.set(0, which, 0, -1, 0));
            due("no 256", BEYOND, x.set(0, which, 0, 0, 256));
            due("no -1", BEYOND, x.set(0, which, 0, -1, -1));
        }
        due("which -1", BEYOND, x.set(0, -1, 0, 0, 0));
        due("which 3", BEYOND, x.set(0, 3, 0, 0, 0));
        due("law 1", BEYOND, x.set(1, 0, 0, 0, 0));
        due("law -1", BEYOND, x.set(-1, 0, 0, 0, 0));
        due("greatest", BEYOND, x.set(GREATEST, GREATEST, 0, 0, 0));
        x.set(0, TARGET, 0, 1, 0);
        tongueOf(x, -1, 0);
        dueLed(x, 0, "0101", "11");
        due("a finding changes nothing", BEYOND, x.set(0, TARGET, 0, 2, 256));
        dueLed(x, 0, "0101", "11");
    }

    /** What fits a set. */
    private static void setFits() {
        promise = 6;
        SoundDesk x = new SoundDesk();
        x.sound(VOWEL, 1, 2);
        x.sound(GLIDE, 3, 0);
        x.sound(STOP, 0, 1);
        x.sound(BREATH, -1, -1);
        x.law(PLAIN);
        tongueOf(x, -1, 0);
        dueLed(x, 0, "0123", "");
        x.set(0, TARGET, VOWEL, 0, 0);
        dueLed(x, 0, "0123", "23");
        x.set(0, TARGET, GLIDE, 0, 0);
        dueLed(x, 0, "0123", "023");
        x.set(0, TARGET, STOP, 0, 0);
        dueLed(x, 0, "0123", "01");
        x.set(0, TARGET, BREATH, 0, 0);
        dueLed(x, 0, "0123", "012");
        x.set(0, TARGET, SOUND, 1, 0);
        dueLed(x, 0, "0123", "23");
        x.set(0, TARGET, SOUND, 0, 1);
        dueLed(x, 0, "0123", "013");
        x.set(0, TARGET, SOUND, 1, 2);
        dueLed(x, 0, "0123", "123");
        x.set(0, TARGET, SOUND, 1, 1);
        dueLed(x, 0, "0123", "0123");
        x.set(0, TARGET, SOUND, 4, 0);
        dueLed(x, 0, "0123", "0123");
        x.set(0, TARGET, SOUND, 0, 0);
        x.set(0, LEFT, EDGE, 0, 0);
        dueLed(x, 0, "0123", "123");
        x.set(0, LEFT, ANY, 0, 0);
        x.set(0, RIGHT, EDGE, 0, 0);
        dueLed(x, 0, "0123", "012");
        x.set(0, RIGHT, STOP, 0, 0);
        dueLed(x, 0, "0123", "03");
        x.set(0, LEFT, VOWEL, 1, 0);
        dueLed(x, 0, "0123", "03");
        x.set(0, LEFT, VOWEL, 1, 2);
        dueLed(x, 0, "0123", "023");
        x.set(0, LEFT, ANY, 0, 0);
        x.set(0, RIGHT, SOUND, 0, 0);
        dueLed(x, 0, "0123", "3");
        x.set(0, RIGHT, ANY, 0, 0);
        x.set(0, LEFT, SOUND, 0, 0);
        dueLed(x, 0, "0123", "0");
        x.set(0, LEFT, EDGE, 0, 0);
        x.set(0, RIGHT, EDGE, 0, 0);
        dueLed(x, 0, "2", "");
        dueLed(x, 0, "22", "22");
        x.set(0, LEFT, ANY, 0, 0);
        x.set(0, RIGHT, ANY, 0, 0);
        x.set(0, TARGET, STOP, 0, 1);
        due("a sound behind its set", 4, x.sound(BREATH, 0, 1));
        dueLed(x, 0, "0123434", "0133");
    }

    private static void becomes() {
        promise = 7;
        SoundDesk x = sounds(2);
        lawOf(x, PLAIN, 0);
        tongueOf(x, -1, 0);
        due("becomes", 0, x.becomes(0, BECOMES, 1));
        dueLed(x, 0, "0010", "1111");
        due("followed", 0, x.becomes(0, FOLLOWED, 1));
        dueLed(x, 0, "0010", "0101101");
        due("becomes itself", 0, x.becomes(0, BECOMES, 0));
        dueLed(x, 0, "0010", "0010");
        due("dropped, sound not looked at", 0, x.becomes(0, DROPPED, LEAST));
        dueLed(x, 0, "0010", "1");
        due("how 3", BEYOND, x.becomes(0, 3, 0));
        due("how -1", BEYOND, x.becomes(0, -1, 0));
        due("law 1", BEYOND, x.becomes(1, 0, 0));
        due("law -1", BEYOND, x.becomes(-1, 1, 0));
        due("becomes sound 2", BEYOND, x.becomes(0, BECOMES, 2));
        due("becomes sound -1", BEYOND, x.becomes(0, BECOMES, -1));
        due("followed by sound 2", BEYOND, x.becomes(0, FOLLOWED, 2));
        dueLed(x, 0, "0010", "1");
    }

    /** How each kind of law goes through a word (term 2). */
    private static void lawKinds() {
        promise = 16;
        for (int kind = PLAIN; kind <= ONCE; kind++) {
            SoundDesk x = sounds(3);
            int edged = lawOf(x, kind, 0);
            x.set(edged, LEFT, EDGE, 0, 0);
            tongueOf(x, -1, edged);
            dueLed(x, 0, "0010", kind == RIGHTWARD ? "10" : "010");
            int behind = lawOf(x, kind, 0);
            x.set(behind, LEFT, SOUND, 1, 0);
            tongueOf(x, -1, behind);
            dueLed(x, 1, "00001", kind == ONCE ? "0001" : "01");
            int ahead = lawOf(x, kind, 0);
            x.set(ahead, RIGHT, SOUND, 1, 0);
            tongueOf(x, -1, ahead);
            dueLed(x, 2, "00001", kind == ONCE ? "0001" : "01");
            int spread = lawOf(x, kind, 0);
            x.set(spread, LEFT, SOUND, 2, 0);
            x.becomes(spread, BECOMES, 1);
            tongueOf(x, -1, spread);
            dueLed(x, 3, "01000", kind == RIGHTWARD ? "01111" : "01100");
            int spreadBack = lawOf(x, kind, 0);
            x.set(spreadBack, RIGHT, SOUND, 2, 0);
            x.becomes(spreadBack, BECOMES, 1);
            tongueOf(x, -1, spreadBack);
            dueLed(x, 4, "00010", kind == LEFTWARD ? "11110" : "00110");
            dueLed(x, 4, "1010", "1110");
            int put = lawOf(x, kind, 0);
            x.set(put, RIGHT, SOUND, 1, 0);
            x.becomes(put, FOLLOWED, 2);
            tongueOf(x, -1, put);
            dueLed(x, 5, "0000", kind == ONCE ? "02000" : "0202020");
        }
        putInStandsThere();
        droppedPlacesAreGone();
    }

    private static void putInStandsThere() {
        SoundDesk x = sounds(3);
        int right = lawOf(x, RIGHTWARD, 0);
        x.set(right, LEFT, SOUND, 1, 0);
        x.becomes(right, FOLLOWED, 2);
        tongueOf(x, -1, right);
        dueLed(x, 0, "0000", "002002");
        int byItself = lawOf(x, RIGHTWARD, 0);
        x.becomes(byItself, FOLLOWED, 0);
        tongueOf(x, -1, byItself);
        dueLed(x, 1, "00", "0000");
        int left = lawOf(x, LEFTWARD, 0);
        x.becomes(left, FOLLOWED, 2);
        tongueOf(x, -1, left);
        dueLed(x, 2, "010", "02102");
        int atTheEnd = lawOf(x, LEFTWARD, 0);
        x.set(atTheEnd, RIGHT, EDGE, 0, 0);
        x.becomes(atTheEnd, FOLLOWED, 0);
        tongueOf(x, -1, atTheEnd);
        dueLed(x, 3, "00", "000");
    }

    private static void droppedPlacesAreGone() {
        SoundDesk x = sounds(3);
        int right = lawOf(x, RIGHTWARD, 0);
        x.set(right, LEFT, SOUND, 2, 0);
        tongueOf(x, -1, right);
        dueLed(x, 0, "1000", "1");
        int left = lawOf(x, LEFTWARD, 0);
        x.set(left, RIGHT, SOUND, 2, 0);
        tongueOf(x, -1, left);
        dueLed(x, 1, "0001", "1");
        int plain = lawOf(x, PLAIN, 0);
        x.set(plain, LEFT, SOUND, 2, 0);
        tongueOf(x, -1, plain);
        dueLed(x, 2, "1000", "100");
        int lastOne = lawOf(x, LEFTWARD, 0);
        x.set(lastOne, RIGHT, EDGE, 0, 0);
        tongueOf(x, -1, lastOne);
        dueLed(x, 3, "0100", "01");
    }

    private static void tongue() {
        promise = 8;
        SoundDesk x = new SoundDesk();
        due("parent 0 of none", BEYOND, x.tongue(0));
        due("parent -2", BEYOND, x.tongue(-2));
        due("the first", 0, x.tongue(-1));
        due("parent itself", BEYOND, x.tongue(1));
        due("the second", 1, x.tongue(0));
        for (int i = 2; i < 6; i++) {
            due("tongue " + i, i, x.tongue(i - 1));
        }
        due("the seventh", FULL, x.tongue(-1));
        due("the seventh, beyond", BEYOND, x.tongue(6));
        due("laws of a new tongue", 0, x.laws(5));
        due("told(2)", 6, x.told(2));
    }

    private static void give() {
        promise = 9;
        SoundDesk x = new SoundDesk();
        x.law(0);
        x.law(1);
        x.tongue(-1);
        x.tongue(0);
        for (int i = 1; i <= 6; i++) {
            due("own law " + i, i, x.give(0, i % 2));
        }
        due("the seventh", FULL, x.give(0, 0));
        due("the seventh, beyond", BEYOND, x.give(0, 2));
        due("own ones of the child alone", 1, x.give(1, 1));
        due("no such tongue", BEYOND, x.give(2, 0));
        due("tongue -1", BEYOND, x.give(-1, 0));
        due("law -1", BEYOND, x.give(1, -1));
        due("laws", 6, x.laws(0));
    }

    private static void swap() {
        promise = 10;
        SoundDesk x = new SoundDesk();
        x.law(0);
        x.law(0);
        x.law(0);
        tongueOf(x, -1, 0, 1, 2);
        tongueOf(x, 0, 2);
        due("swap(0, 1)", 0, x.swap(0, 1));
        due("first", 0, x.lawAt(0, 0));
        due("second", 2, x.lawAt(0, 1));
        due("third", 1, x.lawAt(0, 2));
        due("of the child, too", 2, x.lawAt(1, 1));
        due("swap(0, 0)", 0, x.swap(0, 0));
        due("first", 2, x.lawAt(0, 0));
        due("the last has none behind it", BEYOND, x.swap(0, 2));
        due("k = -1", BEYOND, x.swap(0, -1));
        due("greatest", BEYOND, x.swap(0, GREATEST));
        due("its parent's are not its own", BEYOND, x.swap(1, 0));
        due("no such tongue", BEYOND, x.swap(2, 0));
        due("tongue -1", BEYOND, x.swap(-1, 0));
    }

    private static void laws() {
        promise = 11;
        SoundDesk x = new SoundDesk();
        x.law(0);
        for (int t = 0; t < 6; t++) {
            tongueOf(x, t - 1, 0, 0, 0, 0, 0, 0);
            due("laws of tongue " + t, 6 * (t + 1), x.laws(t));
        }
        due("no such tongue", BEYOND, x.laws(6));
        due("tongue -1", BEYOND, x.laws(-1));
        SoundDesk y = new SoundDesk();
        y.law(0);
        tongueOf(y, -1, 0);
        tongueOf(y, -1, 0, 0);
        tongueOf(y, 0, 0, 0, 0);
        due("not those of a tongue that is no parent", 4, y.laws(2));
        y.give(0, 0);
        due("what a parent is given later, too", 5, y.laws(2));
    }

    private static void lawAt() {
        promise = 12;
        SoundDesk x = new SoundDesk();
        for (int i = 0; i < 6; i++) {
            x.law(0);
        }
        tongueOf(x, -1, 5, 4);
        tongueOf(x, -1, 0);
        tongueOf(x, 0, 3);
        tongueOf(x, 2, 2, 1);
        int[] row = {5, 4, 3, 2, 1};
        for (int k = 0; k < row.length; k++) {
            due("lawAt(3, " + k + ")", row[k], x.lawAt(3, k));
        }
        due("it has not so many", NONE, x.lawAt(3, 5));
        due("k = -1", NONE, x.lawAt(3, -1));
        due("greatest", NONE, x.lawAt(3, GREATEST));
        due("no such tongue", BEYOND, x.lawAt(4, 0));
        due("tongue -1", BEYOND, x.lawAt(-1, 9));
    }

    private static void say() {
        promise = 13;
        SoundDesk x = sounds(3);
        due("no such sound", BEYOND, x.say(3));
        due("sound -1", BEYOND, x.say(-1));
        for (int i = 1; i <= 8; i++) {
            due("sound " + i + " of the word", i, x.say(i % 3));
        }
        due("the ninth", FULL, x.say(0));
        due("the ninth, beyond", BEYOND, x.say(3));
        due("told(4)", 8, x.told(4));
        x.tongue(-1);
        due("led", 8, x.led(0));
        dueResult(x, "led", "12012012");
    }

    private static void hush() {
        promise = 14;
        SoundDesk x = sounds(1);
        due("nothing said", 0, x.hush());
        sayWord(x, "000");
        due("three said", 3, x.hush());
        due("none then", 0, x.hush());
        due("told(4)", 0, x.told(4));
        due("the next is the first", 1, x.say(0));
    }

    private static void result() {
        promise = 15;
        SoundDesk x = sounds(8);
        x.tongue(-1);
        sayWord(x, "70351");
        x.led(0);
        due("how many", 5, x.result(-1));
        due("result(0)", 7, x.result(0));
        due("result(1)", 0, x.result(1));
        due("result(4)", 1, x.result(4));
        due("result(5)", NONE, x.result(5));
        due("result(-2)", NONE, x.result(-2));
        due("least", NONE, x.result(LEAST));
        due("greatest", NONE, x.result(GREATEST));
        x.hush();
        due("the result is not the word", 5, x.result(-1));
    }

    private static void led() {
        promise = 16;
        SoundDesk x = sounds(2);
        doubling(x, 1);
        tongueOf(x, -1, 0);
        tongueOf(x, 0, 0);
        tongueOf(x, -1);
        dueLed(x, 0, "00000000", "0101010101010101");
        due("17 sounds and more", LONG, x.led(1));
        dueResult(x, "led before", "0101010101010101");
        due("what was led before stays", 1, x.told(5));
        due("its places, too", 8, x.places(0));
        dueLed(x, 1, "0000", "0111011101110111");
        dueLed(x, 2, "0011", "0011");
        dueLed(x, 1, "", "");
        due("no such tongue", BEYOND, x.led(3));
        due("tongue -1", BEYOND, x.led(-1));
        SoundDesk y = sounds(2);
        int once = lawOf(y, ONCE, 0);
        y.becomes(once, FOLLOWED, 1);
        doubling(y, 1);
        tongueOf(y, -1, 1, once);
        tongueOf(y, -1, 1, y.law(PLAIN));
        sayWord(y, "00000000");
        due("just 17 sounds", LONG, y.led(0));
        due("16 sounds on the way", 0, y.led(1));
        y.give(1, 1);
        tongueOf(y, -1, 1, 1, 2);
        due("17 sounds on the way, none at its end", LONG, y.led(2));
        SoundDesk z = sounds(1);
        int oneMore = z.law(ONCE);
        z.becomes(oneMore, FOLLOWED, 0);
        doubling(z, 0);
        tongueOf(z, -1, 1);
        tongueOf(z, 0, oneMore);
        sayWord(z, "00000000");
        due("just 16 of sound 0", 16, z.led(0));
        due("just 17 of sound 0", LONG, z.led(1));
    }

    private static void step() {
        promise = 17;
        SoundDesk x = sounds(3);
        turning(x, 0, 1);
        turning(x, 1, 2);
        tongueOf(x, -1, 0);
        tongueOf(x, 0, 1);
        sayWord(x, "0120");
        due("nothing was led", NONE, x.step(0));
        due("led", 4, x.led(1));
        due("step(0)", 4, x.step(0));
        dueResult(x, "step(0)", "1121");
        due("step(1)", 4, x.step(1));
        dueResult(x, "step(1)", "2222");
        due("step(2)", NONE, x.step(2));
        due("step(-1)", NONE, x.step(-1));
        dueResult(x, "a finding", "2222");
        x.hush();
        x.give(1, 0);
        x.becomes(0, DROPPED, 0);
        due("it had not so many laws then", NONE, x.step(2));
        due("as it was led", 4, x.step(0));
        dueResult(x, "step(0) later", "1121");
        x.tongue(-1);
        due("led by no laws", 0, x.led(2));
        due("no steps then", NONE, x.step(0));
    }

    private static void places() {
        promise = 18;
        SoundDesk x = sounds(2);
        lawOf(x, PLAIN, 0);
        x.becomes(0, BECOMES, 0);
        lawOf(x, RIGHTWARD, 1);
        x.becomes(1, FOLLOWED, 0);
        lawOf(x, ONCE, 0);
        lawOf(x, LEFTWARD, 0);
        tongueOf(x, -1, 0, 1, 2, 3, 3);
        due("nothing was led", NONE, x.places(0));
        sayWord(x, "0101100");
        due("led", 3, x.led(0));
        due("it became itself", 4, x.places(0));
        due("followed", 3, x.places(1));
        due("once", 1, x.places(2));
        due("dropped", 6, x.places(3));
        due("nowhere", 0, x.places(4));
        due("places(5)", NONE, x.places(5));
        due("places(-1)", NONE, x.places(-1));
        dueResult(x, "places leave it", "111");
    }

    private static void back() {
        promise = 19;
        SoundDesk x = sounds(3);
        turning(x, 0, 1);
        tongueOf(x, -1, 0);
        dueLed(x, 0, "2", "2");
        sayWord(x, "11");
        due("most 1", 0, x.back(0, 1));
        dueResult(x, "none: it stays", "2");
        due("most 2", 4, x.back(0, 2));
        dueResult(x, "the first one", "00");
        due("most 4", 4, x.back(0, 4));
        sayWord(x, "10");
        due("no word", 0, x.back(0, 4));
        x.hush();
        due("the empty word", 1, x.back(0, 0));
        dueResult(x, "the empty word", "");
        due("most 5", BEYOND, x.back(0, 5));
        due("most -1", BEYOND, x.back(0, -1));
        due("tongue 1", BEYOND, x.back(1, 0));
        due("tongue -1", BEYOND, x.back(-1, 0));
        lawOf(x, PLAIN, 2);
        x.give(0, 1);
        sayWord(x, "1");
        due("dropped ones", 2 + 4 + 6 + 8, x.back(0, 4));
        dueResult(x, "the shortest one", "0");
        SoundDesk y = new SoundDesk();
        y.tongue(-1);
        due("no sounds: the empty word alone", 1, y.back(0, 4));
    }

    private static void differ() {
        promise = 20;
        SoundDesk x = sounds(2);
        turning(x, 0, 1);
        turning(x, 1, 0);
        tongueOf(x, -1, 0, 1);
        tongueOf(x, -1, 1, 0);
        tongueOf(x, -1);
        due("the first one", 1, x.differ(0, 1, 4));
        dueResult(x, "differ", "0");
        due("first led apart from itself", 1, x.differ(0, 2, 4));
        dueResult(x, "differ", "1");
        due("of the empty word", NONE, x.differ(0, 1, 0));
        due("a tongue from itself", NONE, x.differ(1, 1, 4));
        dueResult(x, "none: it stays", "1");
        due("tongue 3", BEYOND, x.differ(3, 0, 1));
        due("other 3", BEYOND, x.differ(0, 3, 1));
        due("other -1", BEYOND, x.differ(0, -1, 1));
        due("most 5", BEYOND, x.differ(0, 1, 5));
        due("most -1", BEYOND, x.differ(0, 1, -1));
        differNowhere();
    }

    private static void differNowhere() {
        SoundDesk x = sounds(2);
        doubling(x, 1);
        int dropAll = x.law(PLAIN);
        tongueOf(x, -1, 0, 0, 0, 0, 0);
        tongueOf(x, 0, 0);
        tongueOf(x, -1, dropAll);
        due("both nowhere, or both to the empty word", NONE, x.differ(0, 1, 4));
        due("one nowhere", 1, x.differ(0, 2, 4));
        dueResult(x, "one nowhere", "0");
        tongueOf(x, -1, 0, 0, 0);
        tongueOf(x, -1, 0, 0, 0);
        int once = lawOf(x, ONCE, 0);
        x.set(once, LEFT, EDGE, 0, 0);
        x.set(once, RIGHT, EDGE, 0, 0);
        x.becomes(once, FOLLOWED, 0);
        x.give(4, once);
        due("alike up to 2 sounds", NONE, x.differ(3, 4, 4));
    }

    private static void loses() {
        promise = 21;
        SoundDesk x = sounds(2);
        turning(x, 0, 1);
        tongueOf(x, -1, 0);
        tongueOf(x, -1);
        dueLed(x, 1, "01", "01");
        due("most 0", 0, x.loses(0, 0));
        dueResult(x, "none: it stays", "01");
        due("most 1", 1, x.loses(0, 1));
        dueResult(x, "the first", "1");
        due("most 4", 1 + 3 + 7 + 15, x.loses(0, 4));
        dueResult(x, "the first", "1");
        due("without laws", 0, x.loses(1, 4));
        due("tongue 2", BEYOND, x.loses(2, 0));
        due("most 5", BEYOND, x.loses(0, 5));
        due("most -1", BEYOND, x.loses(0, -1));
        x.law(PLAIN);
        tongueOf(x, -1, 1);
        due("all to the empty word", 30, x.loses(2, 4));
        dueResult(x, "the first", "0");
        doubling(x, 0);
        tongueOf(x, -1, 2, 2, 2, 2, 2);
        due("nowhere is no word", 0, x.loses(3, 4));
        SoundDesk y = sounds(8);
        y.law(PLAIN);
        tongueOf(y, -1, 0);
        tongueOf(y, -1);
        due("all of eight sounds", 4680, y.loses(0, 4));
        due("none of eight sounds", 0, y.loses(1, 4));
    }

    private static void stand() {
        promise = 22;
        SoundDesk x = sounds(3);
        int zeroToOne = turning(x, 0, 1);
        int oneToTwo = turning(x, 1, 2);
        int twoToTwo = turning(x, 2, 2);
        int dropOne = lawOf(x, PLAIN, 1);
        tongueOf(x, -1, zeroToOne, oneToTwo);
        due("B finds more", 5, x.stand(0, 0, 1));
        due("of the empty word alone", 0, x.stand(0, 0, 0));
        tongueOf(x, -1, oneToTwo, zeroToOne);
        due("B finds as many", 4, x.stand(1, 0, 4));
        tongueOf(x, 0, oneToTwo, dropOne, dropOne);
        due("B finds fewer", 6, x.stand(2, 0, 2));
        due("the same law", 0, x.stand(2, 1, 4));
        tongueOf(x, -1, twoToTwo, zeroToOne);
        due("they meet nowhere", 0, x.stand(3, 0, 4));
        standBoth(x, zeroToOne);
        due("k of the last", BEYOND, x.stand(0, 1, 1));
        due("k -1", BEYOND, x.stand(0, -1, 1));
        due("k greatest", BEYOND, x.stand(0, GREATEST, 1));
        due("a parent's laws", BEYOND, x.stand(2, 2, 1));
        due("most 5", BEYOND, x.stand(0, 0, 5));
        due("most -1", BEYOND, x.stand(0, 0, -1));
        due("no such tongue", BEYOND, x.stand(6, 0, 0));
        due("tongue -1", BEYOND, x.stand(-1, 0, 0));
    }

    private static void standBoth(SoundDesk x, int zeroToOne) {
        int behindAnother = lawOf(x, PLAIN, 1);
        x.set(behindAnother, LEFT, SOUND, 0, 2);
        x.becomes(behindAnother, BECOMES, 0);
        tongueOf(x, -1, zeroToOne, behindAnother);
        due("B finds more here, fewer there", 7, x.stand(4, 0, 3));
        due("not of words of one sound", 0, x.stand(4, 0, 1));
    }

    private static void meaning() {
        promise = 23;
        SoundDesk x = new SoundDesk();
        for (int i = 0; i < 8; i++) {
            due("meaning " + i, i, x.meaning());
        }
        due("the ninth", FULL, x.meaning());
        due("told(3)", 8, x.told(3));
        due("without forms", NONE, x.some(7, 0));
    }

    private static void form() {
        promise = 24;
        SoundDesk x = sounds(2);
        x.tongue(-1);
        x.tongue(-1);
        x.meaning();
        x.meaning();
        due("the empty word is a form", 1, x.form(0, 1));
        sayWord(x, "01");
        due("a second one", 2, x.form(0, 0));
        due("in place of what was", 2, x.form(0, 1));
        x.hush();
        due("the word can go", 0, x.match(0, 0, 1));
        due("of another meaning", 1, x.form(1, 0));
        due("meaning 2", BEYOND, x.form(2, 0));
        due("meaning -1", BEYOND, x.form(-1, 0));
        due("tongue 2", BEYOND, x.form(0, 2));
        due("tongue -1", BEYOND, x.form(0, -1));
        due("none in tongue 1", NONE, x.match(1, 0, 1));
    }

    private static void roots() {
        promise = 25;
        SoundDesk x = sounds(3);
        tongueOf(x, -1, turning(x, 0, 1));
        tongueOf(x, -1, turning(x, 0, 2));
        tongueOf(x, 0, turning(x, 1, 2));
        x.meaning();
        dueLed(x, 0, "2", "2");
        due("no form, no root", 0, x.roots(0, 4));
        dueResult(x, "none: it stays", "2");
        tellForm(x, 0, 0, "11");
        due("of one form", 4, x.roots(0, 4));
        dueResult(x, "the first", "00");
        tellForm(x, 0, 1, "12");
        due("of two forms", 1, x.roots(0, 4));
        dueResult(x, "the first", "10");
        due("of fewer sounds", 0, x.roots(0, 1));
        dueResult(x, "it stays", "10");
        tellForm(x, 0, 2, "22");
        due("of three forms", 1, x.roots(0, 2));
        tellForm(x, 0, 2, "21");
        due("of none that goes together", 0, x.roots(0, 4));
        due("meaning 1", BEYOND, x.roots(1, 0));
        due("meaning -1", BEYOND, x.roots(-1, 0));
        due("most 5", BEYOND, x.roots(0, 5));
        due("most -1", BEYOND, x.roots(0, -1));
    }

    private static void some() {
        promise = 26;
        SoundDesk x = sounds(3);
        tongueOf(x, -1, turning(x, 0, 1));
        tongueOf(x, -1, turning(x, 0, 2));
        tongueOf(x, -1);
        x.meaning();
        due("no form", NONE, x.some(0, 4));
        tellForm(x, 0, 0, "11");
        tellForm(x, 0, 1, "12");
        tellForm(x, 0, 2, "00");
        due("two of three", 2, x.some(0, 4));
        dueResult(x, "the first with two", "00");
        tellForm(x, 0, 2, "10");
        due("all three", 3, x.some(0, 2));
        dueResult(x, "all three", "10");
        due("of at most one sound", 0, x.some(0, 1));
        dueResult(x, "the first of all words", "");
        due("meaning 1", BEYOND, x.some(1, 0));
        due("beyond ahead of none", BEYOND, x.some(0, 5));
        due("most -1", BEYOND, x.some(0, -1));
        x.meaning();
        due("beyond ahead of none", BEYOND, x.some(1, 5));
        due("none", NONE, x.some(1, 4));
    }

    private static void explain() {
        promise = 27;
        SoundDesk x = sounds(2);
        tongueOf(x, -1, turning(x, 0, 1));
        due("no meanings", 0, x.explain(4));
        for (int i = 0; i < 5; i++) {
            x.meaning();
        }
        tellForm(x, 0, 0, "");
        tellForm(x, 1, 0, "1");
        tellForm(x, 2, 0, "0");
        tellForm(x, 3, 0, "1111");
        due("most 0", 1, x.explain(0));
        due("most 1", 2, x.explain(1));
        due("most 3", 2, x.explain(3));
        due("most 4", 3, x.explain(4));
        due("most 5", BEYOND, x.explain(5));
        due("most -1", BEYOND, x.explain(-1));
        dueLed(x, 0, "0", "1");
        x.explain(4);
        dueResult(x, "explain leaves it", "1");
    }

    private static void order() {
        promise = 28;
        SoundDesk x = sounds(4);
        int a = turning(x, 0, 1);
        int b = turning(x, 1, 2);
        int c = turning(x, 2, 3);
        tongueOf(x, -1, a, b, c);
        x.tongue(0);
        due("no meanings: as they stand", 0, x.order(0, 3));
        due("first", a, x.lawAt(0, 0));
        due("last", c, x.lawAt(0, 2));
        x.meaning();
        tellForm(x, 0, 0, "2");
        due("b behind c", 1, x.order(0, 1));
        due("first", a, x.lawAt(0, 0));
        due("second", c, x.lawAt(0, 1));
        due("third", b, x.lawAt(0, 2));
        x.meaning();
        tellForm(x, 1, 1, "12");
        due("what its child leads counts, too", 2, x.order(0, 2));
        due("first", c, x.lawAt(0, 0));
        due("second", b, x.lawAt(0, 1));
        due("third", a, x.lawAt(0, 2));
        due("most 4", BEYOND, x.order(0, 4));
        due("most -1", BEYOND, x.order(0, -1));
        due("tongue 2", BEYOND, x.order(2, 0));
        due("no own laws", 2, x.order(1, 2));
        x.give(0, a);
        due("four", 2, x.order(0, 2));
        x.give(0, a);
        due("five", LONG, x.order(0, 2));
        due("five, beyond", BEYOND, x.order(0, 4));
        orderOfFour();
        everyOrderOfFour();
        firstOfEqualOrders();
    }

    /** Each law puts a sound of its own behind the last one, so a form tells the order of its laws. */
    private static void everyOrderOfFour() {
        for (int wanted = 0; wanted < 256; wanted++) {
            int[] row = {wanted & 3, wanted >> 2 & 3, wanted >> 4 & 3, wanted >> 6 & 3};
            int seen = 1 << row[0] | 1 << row[1] | 1 << row[2] | 1 << row[3];
            if (seen == 15) {
                dueOrder(row);
            }
        }
    }

    private static void dueOrder(int[] row) {
        SoundDesk x = sounds(5);
        StringBuilder word = new StringBuilder("4");
        tongueOf(x, -1);
        tongueOf(x, -1);
        x.meaning();
        tellForm(x, 0, 1, "4");
        for (int i = 0; i < 4; i++) {
            int law = x.law(PLAIN);
            x.set(law, RIGHT, EDGE, 0, 0);
            x.becomes(law, FOLLOWED, i);
            x.give(0, law);
            word.append(row[i]);
        }
        tellForm(x, 0, 0, word.toString());
        due("order for " + word, 1, x.order(0, 1));
        for (int k = 0; k < 4; k++) {
            due("law " + k + " of the order for " + word, row[k], x.lawAt(0, k));
        }
        due("few for " + word, 15, x.few(0, 1));
    }

    /** Of two orders that explain as much, the first one. */
    private static void firstOfEqualOrders() {
        SoundDesk x = sounds(4);
        int drop = lawOf(x, PLAIN, 0);
        int a = turning(x, 1, 0);
        int b = turning(x, 2, 3);
        int c = turning(x, 3, 2);
        tongueOf(x, -1, a, drop, b, c);
        tongueOf(x, -1);
        x.meaning();
        tellForm(x, 0, 0, "0");
        tellForm(x, 0, 1, "1");
        due("a behind drop", 1, x.order(0, 1));
        int[] row = {drop, a, b, c};
        for (int k = 0; k < 4; k++) {
            due("law " + k, row[k], x.lawAt(0, k));
        }
        tellForm(x, 0, 0, "3");
        tellForm(x, 0, 1, "2");
        due("b behind c", 1, x.order(0, 1));
        int[] then = {drop, a, c, b};
        for (int k = 0; k < 4; k++) {
            due("law " + k, then[k], x.lawAt(0, k));
        }
        due("of the empty word", 0, x.order(0, 0));
        due("fewest of the empty word", 0, x.few(0, 0));
        due("still", drop, x.lawAt(0, 0));
    }

    /** 1, 2 and 3 are all led to only when each law comes ahead of the one that feeds it. */
    private static void orderOfFour() {
        SoundDesk x = sounds(5);
        tongueOf(x, -1, turning(x, 0, 1), turning(x, 1, 2), turning(x, 2, 3), turning(x, 3, 4));
        x.meaning();
        tellForm(x, 0, 0, "123");
        due("the first with 1 there", 1, x.order(0, 3));
        int[] row = {3, 2, 1, 0};
        for (int k = 0; k < 4; k++) {
            due("law " + k, row[k], x.lawAt(0, k));
        }
        due("as it stands", 1, x.order(0, 3));
        due("the first order is as they stand", 3, x.lawAt(0, 0));
        tellForm(x, 0, 0, "0");
        due("none explains it: as they stand", 0, x.order(0, 3));
        due("first", 3, x.lawAt(0, 0));
        tellForm(x, 0, 0, "3");
        due("3 is as it stands", 1, x.order(0, 3));
        due("first", 3, x.lawAt(0, 0));
        due("fourth", 0, x.lawAt(0, 3));
    }

    private static void few() {
        promise = 29;
        SoundDesk x = sounds(4);
        int a = turning(x, 0, 1);
        int b = turning(x, 1, 2);
        int c = turning(x, 2, 3);
        tongueOf(x, -1, a, b, c);
        due("no meanings: none is needed", 0, x.few(0, 3));
        x.meaning();
        tellForm(x, 0, 0, "3");
        due("3 comes of itself", 0, x.few(0, 1));
        tongueOf(x, -1);
        tellForm(x, 0, 1, "1");
        due("1 to 3", 6, x.few(0, 1));
        tellForm(x, 0, 1, "2");
        due("2 to 3", 4, x.few(0, 1));
        tellForm(x, 0, 1, "0");
        due("0 to 3", 7, x.few(0, 1));
        due("its laws stay", 3, x.laws(0));
        due("its laws stay", c, x.lawAt(0, 2));
        x.give(0, c);
        due("the least number of those with three", 7, x.few(0, 1));
        x.swap(0, 0);
        x.swap(0, 1);
        tellForm(x, 0, 1, "2");
        due("b, c, a, c: the second is less than the last", 2, x.few(0, 1));
        due("no own laws", 0, x.few(1, 3));
        due("most 4", BEYOND, x.few(0, 4));
        due("most -1", BEYOND, x.few(0, -1));
        due("tongue 2", BEYOND, x.few(2, 0));
        x.give(0, a);
        due("five", LONG, x.few(0, 1));
        due("five, beyond", BEYOND, x.few(0, 4));
    }

    private static void cost() {
        promise = 30;
        SoundDesk x = new SoundDesk();
        due("3 at first", 3, x.cost(99));
        due("99 then", 99, x.cost(0));
        due("100", BEYOND, x.cost(100));
        due("-1", BEYOND, x.cost(-1));
        due("0 still", 0, x.cost(7));
        due("7 then", 7, x.cost(7));
    }

    private static void match() {
        promise = 31;
        SoundDesk x = new SoundDesk();
        x.sound(0, 7, 8);
        x.sound(0, 8, 7);
        x.sound(0, 1, 0);
        x.sound(0, -1, -1);
        x.tongue(-1);
        x.tongue(-1);
        x.meaning();
        due("no form", NONE, x.match(0, 0, 1));
        tellForm(x, 0, 0, "0");
        due("one form", NONE, x.match(0, 0, 1));
        due("one form, the other way", NONE, x.match(0, 1, 0));
        due("with itself", 0, x.match(0, 0, 0));
        dueMatch(x, "0", "1", 5);
        dueMatch(x, "0", "2", 1);
        dueMatch(x, "1", "2", 2);
        dueMatch(x, "0", "3", 1);
        dueMatch(x, "3", "3", 0);
        dueMatch(x, "", "", 0);
        dueMatch(x, "", "012", 9);
        dueMatch(x, "012", "12", 3);
        dueMatch(x, "0120120", "1201202", 6);
        x.cost(2);
        dueMatch(x, "0", "1", 4);
        dueMatch(x, "00000000", "11111111", 32);
        x.cost(99);
        dueMatch(x, "0", "1", 5);
        dueMatch(x, "00000000", "", 792);
        dueMatch(x, "00000000", "1", 5 + 693);
        x.cost(0);
        dueMatch(x, "0", "1", 0);
        due("meaning 1", BEYOND, x.match(1, 0, 0));
        due("meaning -1", BEYOND, x.match(-1, 0, 0));
        due("tongue 2", BEYOND, x.match(0, 2, 0));
        due("other 2", BEYOND, x.match(0, 0, 2));
        due("other -1", BEYOND, x.match(0, 0, -1));
    }

    private static void dueMatch(SoundDesk x, String one, String two, int want) {
        tellForm(x, 0, 0, one);
        tellForm(x, 0, 1, two);
        due("match of '" + one + "' and '" + two + "'", want, x.match(0, 0, 1));
        due("match of '" + two + "' and '" + one + "'", want, x.match(0, 1, 0));
    }

    private static void put() {
        promise = 32;
        SoundDesk x = new SoundDesk();
        for (int i = 1; i <= 300; i++) {
            due("number " + i, i, x.put(i % 2 == 0 ? LEAST : GREATEST));
        }
        due("the 301st", FULL, x.put(0));
        due("told(6)", 300, x.told(6));
        x.tongue(-1);
        due("they are gone", 1, x.check(0));
        due("the first again", 1, x.put(0));
    }

    private static void check() {
        promise = 33;
        SoundDesk x = sounds(3);
        turning(x, 0, 1);
        lawOf(x, PLAIN, 2);
        tongueOf(x, -1, 0);
        tongueOf(x, 0, 1);
        tongueOf(x, -1);
        sayWord(x, "021");
        puts(x, 3, 1, 2, 1, 2, 1, 1);
        due("just so", 0, x.check(1));
        due("none waits then", 0, x.told(6));
        due("nothing told", 1, x.check(1));
        puts(x, 3, 1, 2, 1);
        due("the second is not told", 2, x.check(1));
        puts(x, 3, 1, 2, 1, 2, 1);
        due("the second is cut", 2, x.check(1));
        puts(x, 3, 1, 2);
        due("the first is cut", 1, x.check(1));
        puts(x, 3);
        due("a size alone", 1, x.check(1));
        puts(x, 3, 1, 2, 1, 2, 1, 1, 0);
        due("more is told", 3, x.check(1));
        puts(x, 2, 1, 2, 1, 2, 1, 1);
        due("a wrong size", 1, x.check(1));
        puts(x, 3, 1, 2, 0, 2, 1, 1);
        due("a wrong sound", 1, x.check(1));
        puts(x, 3, 1, 2, 1, 2, 1, 2);
        due("a wrong sound at the end", 2, x.check(1));
        puts(x, 3, 1, 2, 1, LEAST);
        due("a strange size", 2, x.check(1));
        puts(x, GREATEST);
        due("a strange size", 1, x.check(1));
        due("without laws, nothing told", 0, x.check(2));
        puts(x, 0);
        due("without laws, anything", 1, x.check(2));
        due("nothing was led by it", 0, x.told(5));
        due("the result stays", 0, x.result(-1));
        checkFindings(x);
        checkEmptySteps();
    }

    private static void checkFindings(SoundDesk x) {
        puts(x, 1, 2);
        due("no such tongue", BEYOND, x.check(3));
        due("the numbers are gone", 0, x.told(6));
        due("tongue -1", BEYOND, x.check(-1));
        doubling(x, 0);
        tongueOf(x, -1, 2, 2, 2);
        puts(x, 1, 2);
        due("nowhere", LONG, x.check(3));
        due("the numbers are gone", 0, x.told(6));
    }

    private static void checkEmptySteps() {
        SoundDesk x = sounds(1);
        x.law(PLAIN);
        tongueOf(x, -1, 0, 0);
        sayWord(x, "0");
        puts(x, 0, 0);
        due("empty steps", 0, x.check(0));
        puts(x, 0, 0, 0);
        due("one empty step too many", 3, x.check(0));
        puts(x, 0);
        due("one empty step too few", 2, x.check(0));
        puts(x, 1, 0);
        due("a sound where none is", 1, x.check(0));
        SoundDesk y = sounds(1);
        doubling(y, 0);
        int same = turning(y, 0, 0);
        tongueOf(y, -1, 0, same, same, same, same, same);
        for (int t = 1; t < 3; t++) {
            tongueOf(y, t - 1, same, same, same, same, same, same);
        }
        sayWord(y, "00000000");
        for (int i = 0; i < 300; i++) {
            y.put(i % 17 == 0 ? 16 : 0);
        }
        due("300 numbers hold 17 steps of 16 sounds", 18, y.check(2));
    }

    private static void keepAndAgain() {
        promise = 34;
        SoundDesk x = sounds(2);
        turning(x, 0, 1);
        tongueOf(x, -1, 0);
        x.meaning();
        tellForm(x, 0, 0, "01");
        x.cost(5);
        x.led(0);
        x.put(7);
        due("a finding", BEYOND, x.law(9));
        promise = 35;
        due("nothing is kept", NONE, x.again());
        promise = 34;
        due("keep()", 1, x.keep());
        changeAll(x);
        promise = 35;
        due("again()", 1, x.again());
        dueAsKept(x, 2, 3);
        changeAll(x);
        due("again(), once more", 1, x.again());
        dueAsKept(x, 3, 4);
        promise = 34;
        x.hush();
        due("keep() in place of what was", 1, x.keep());
        x.say(0);
        x.again();
        due("the later one", 0, x.told(4));
        due("the rest, too", 2, x.told(0));
        keptSetsAndForms();
    }

    private static void keptSetsAndForms() {
        SoundDesk x = new SoundDesk();
        x.sound(VOWEL, 1, 0);
        x.sound(STOP, 2, 1);
        x.law(PLAIN);
        x.set(0, TARGET, VOWEL, 1, 2);
        tongueOf(x, -1, 0);
        tongueOf(x, -1);
        x.meaning();
        x.meaning();
        tellForm(x, 0, 0, "01");
        tellForm(x, 0, 1, "01");
        x.keep();
        x.set(0, TARGET, STOP, 2, 1);
        tellForm(x, 0, 0, "1");
        tellForm(x, 1, 0, "1");
        x.again();
        due("no form of the second meaning", NONE, x.some(1, 4));
        due("a new sound", 2, x.sound(GLIDE, 1, 2));
        due("a new sound", 3, x.sound(BREATH, 2, 1));
        due("a new sound", 4, x.sound(VOWEL, 3, 0));
        due("a new sound", 5, x.sound(GLIDE, 0, 2));
        dueLed(x, 0, "012345", "01345");
        due("the forms are as they were", 1, x.roots(0, 2));
        dueResult(x, "their root", "01");
    }

    private static void changeAll(SoundDesk x) {
        x.sound(0, 0, 0);
        x.law(0);
        x.set(0, TARGET, SOUND, 2, 0);
        x.becomes(0, DROPPED, 0);
        x.give(0, 1);
        x.swap(0, 0);
        tongueOf(x, -1, 0, 0);
        x.meaning();
        tellForm(x, 0, 0, "1");
        tellForm(x, 0, 1, "1");
        tellForm(x, 1, 1, "1");
        x.led(1);
        x.cost(9);
        x.put(1);
        x.law(-1);
    }

    private static void dueAsKept(SoundDesk x, int waiting, int findings) {
        due("sounds", 2, x.told(0));
        due("laws", 1, x.told(1));
        due("tongues", 1, x.told(2));
        due("meanings", 1, x.told(3));
        due("the word", 2, x.told(4));
        due("led latest", 1, x.told(5));
        due("numbers that wait are not kept", waiting, x.told(6));
        due("findings go on", findings, x.told(7));
        dueResult(x, "what was led", "11");
        due("its places", 1, x.places(0));
        due("own laws", 1, x.laws(0));
        due("the law", 0, x.lawAt(0, 0));
        due("the gap", 5, x.cost(5));
        due("the form", 0, x.match(0, 0, 0));
        due("the root of it", 0, x.roots(0, 2));
        due("the first step", 2, x.step(0));
        due("the law is as it was", 2, x.led(0));
        dueResult(x, "led", "11");
        due("a new tongue", 1, x.tongue(-1));
        due("has no own laws", 0, x.laws(1));
        due("a new meaning", 1, x.meaning());
        due("has no forms", 1, x.form(1, 0));
        x.again();
    }

    private static void told() {
        promise = 36;
        SoundDesk x = sounds(3);
        turning(x, 0, 1);
        turning(x, 0, 1);
        tongueOf(x, -1, 0, 1);
        x.tongue(0);
        x.tongue(1);
        x.tongue(1);
        for (int i = 0; i < 5; i++) {
            x.meaning();
        }
        sayWord(x, "010212");
        x.led(3);
        puts(x, 1, 1, 1, 1, 1, 1, 1);
        int[] want = {3, 2, 4, 5, 6, 2, 7, 0};
        for (int what = 0; what < 8; what++) {
            due("told(" + what + ")", want[what], x.told(what));
        }
        due("told(8)", BEYOND, x.told(8));
        due("this one, too", 1, x.told(7));
        due("told(-1)", BEYOND, x.told(-1));
        due("least", BEYOND, x.told(LEAST));
        due("three by now", 3, x.told(7));
        everyFindingIsCounted();
    }

    private static void everyFindingIsCounted() {
        String[] names = {
            "sound", "mark", "as", "law", "set", "becomes", "tongue", "give", "swap", "laws", "lawAt", "say",
            "result", "led", "step", "places", "back", "differ", "loses", "stand", "form", "roots", "some",
            "explain", "order", "few", "cost", "match", "check", "again", "told"
        };
        SoundDesk x = new SoundDesk();
        for (int i = 0; i < names.length; i++) {
            int answer = Desks.call(x, names[i], -9, -9, -9, -9, -9);
            due(names[i] + " is a finding", 1, answer < 0 ? 1 : 0);
            due("findings behind " + names[i], i + 1, x.told(7));
        }
    }
}
