import java.util.ArrayList;
import java.util.List;
import java.util.Random;

/** Random runs of at most 512 calls, each answer held against that of PlainDesk. */
public final class RandomRunsTest {
    private static final int RUNS = 3000;
    /** What an object answers behind so many calls is free. */
    private static final int MOST_CALLS = 512;
    private static final int[] STRANGE = {
        Integer.MIN_VALUE, Integer.MIN_VALUE + 1, -300, -3, -2, -1, 0, 1, 2, 3, 4, 5, 6, 7, 8, 9, 15, 16, 17, 36,
        99, 100, 255, 256, 257, 1 << 16, Integer.MAX_VALUE - 1, Integer.MAX_VALUE
    };

    private final Random random;
    private final SoundDesk desk = new SoundDesk();
    private final PlainDesk plain = new PlainDesk();
    private final StringBuilder calls = new StringBuilder();
    private final int mostSounds;
    /** Each sound has a mark of its own, and the laws name single sounds: they meet more often. */
    private final boolean lively;
    private boolean right = true;
    private int made = 0;

    private RandomRunsTest(long seed) {
        random = new Random(seed);
        lively = random.nextInt(2) == 0;
        mostSounds = random.nextInt(12) == 0 ? 8 : 2 + random.nextInt(3);
    }

    public static void main(String[] args) {
        int runs = args.length > 0 ? Integer.parseInt(args[0]) : RUNS;
        int wrong = 0;
        for (int run = 0; run < runs && wrong < 5; run++) {
            RandomRunsTest test = new RandomRunsTest(20261116L * 7919 * (run + 1));
            test.run();
            if (!test.right) {
                wrong++;
                System.out.println("random run " + run + ":\n" + test.calls);
            }
        }
        System.out.println(wrong == 0 ? "random runs: all answers are as due" : "random runs: wrong");
        if (wrong != 0) {
            System.exit(1);
        }
    }

    private void run() {
        buildUp();
        int more = 40 + random.nextInt(80);
        for (int i = 0; i < more && right && made < MOST_CALLS; i++) {
            randomCall();
        }
    }

    private void buildUp() {
        int sounds = random.nextInt(20) == 0 ? random.nextInt(2) : mostSounds - random.nextInt(2);
        for (int i = 0; i < sounds; i++) {
            newSound();
        }
        int laws = 1 + random.nextInt(8);
        for (int i = 0; i < laws; i++) {
            call("law", random.nextInt(4));
            shape(i);
        }
        int tongues = 1 + random.nextInt(5);
        for (int i = 0; i < tongues; i++) {
            call("tongue", random.nextInt(i + 1) - 1);
            int own = random.nextInt(5);
            for (int k = 0; k < own; k++) {
                call("give", i, random.nextInt(laws));
            }
        }
        int meanings = random.nextInt(5);
        for (int i = 0; i < meanings; i++) {
            call("meaning");
            tellForms(i);
        }
    }

    /** Forms of one word, so that roots are there to be found. */
    private void tellForms(int meaning) {
        List<Integer> root = new ArrayList<>();
        int size = random.nextInt(3) + 1;
        for (int i = 0; i < size; i++) {
            root.add(random.nextInt(Math.max(1, plain.countSounds())));
        }
        for (int tongue = 0; tongue < plain.countTongues(); tongue++) {
            if (random.nextInt(4) == 0) {
                continue;
            }
            sayWord(root);
            int led = call("led", tongue);
            if (led >= 0 && led <= 8 && random.nextInt(12) != 0) {
                List<Integer> goal = new ArrayList<>();
                for (int i = 0; i < led; i++) {
                    goal.add(call("result", i));
                }
                sayWord(goal);
            }
            call("form", meaning, tongue);
        }
    }

    private void sayWord(List<Integer> word) {
        call("hush");
        for (int sound : word) {
            call("say", sound);
        }
    }

    private void newSound() {
        if (lively) {
            int own = 1 << (plain.countSounds() & 7);
            call("sound", random.nextInt(3), own, 255 & ~own);
            return;
        }
        if (random.nextInt(8) == 0) {
            call("sound", random.nextInt(5), -1, -1);
            return;
        }
        int yes = random.nextInt(256);
        int no = random.nextInt(256) & ~yes | 7 & ~yes;
        call("sound", random.nextInt(5), yes, no);
    }

    private void shape(int law) {
        for (int which = 0; which < 3; which++) {
            if (random.nextInt(2) == 0) {
                continue;
            }
            int kind = which > 0 && random.nextInt(3) == 0 ? -1 - random.nextInt(2) : kindOfSet();
            if (lively && kind >= 0) {
                call("set", law, which, 0, 1 << (near(plain.countSounds()) & 7), 0);
            } else {
                call("set", law, which, kind, fewMarks(kind), fewMarks(kind));
            }
        }
        if (random.nextInt(4) != 0) {
            call("becomes", law, random.nextInt(4) % 3, near(plain.countSounds()));
        }
    }

    private int marks() {
        return random.nextInt(3) == 0 ? near(256) : 0;
    }

    private int kindOfSet() {
        return random.nextInt(3) != 0 ? 0 : random.nextInt(5);
    }

    /** Marks that some sounds have, so that laws fit many words and not all. */
    private int fewMarks(int kind) {
        return kind < 0 || random.nextInt(4) != 0 ? 0 : 1 << random.nextInt(random.nextInt(9) == 0 ? 8 : 3);
    }

    /** A number below a count most times, else a strange one. */
    private int near(int count) {
        if (random.nextInt(25) == 0) {
            return STRANGE[random.nextInt(STRANGE.length)];
        }
        int past = random.nextInt(12) == 0 ? 2 : 0;
        return random.nextInt(Math.max(1, count + past));
    }

    private int most(int top) {
        int cheap = plain.countSounds() > 4 ? 2 : plain.countSounds() > 2 ? 3 : 4;
        int most = near(top + 1);
        return most >= 0 && most <= top ? Math.min(most, cheap) : most;
    }

    private void randomCall() {
        int sounds = plain.countSounds();
        int laws = plain.countLaws();
        int tongues = plain.countTongues();
        int meanings = plain.countMeanings();
        int tongue = near(tongues);
        switch (random.nextInt(46)) {
            case 0: if (sounds < mostSounds || random.nextInt(8) == 0) { newSound(); } break;
            case 1: call("mark", near(sounds), near(8)); break;
            case 2: call("as", near(sounds), near(5)); break;
            case 3: call("law", near(4)); break;
            case 4: call("set", near(laws), near(3), near(7) - 2, marks(), marks()); break;
            case 5: call("give", tongue, near(laws)); break;
            case 6: shape(near(laws)); break;
            case 7: call("becomes", near(laws), near(3), near(sounds)); break;
            case 8: call("tongue", near(tongues + 1) - 1); break;
            case 9: case 10: call("give", tongue, near(laws)); break;
            case 11: call("swap", tongue, near(plain.countOwn(tongue))); break;
            case 12: call("laws", tongue); break;
            case 13: call("lawAt", tongue, near(12)); break;
            case 14: case 15: case 16: call("say", near(sounds)); break;
            case 17: call("hush"); break;
            case 18: call("result", near(9) - 1); break;
            case 19: case 20: case 21: call("led", tongue); readResult(); break;
            case 22: call("step", near(10)); readResult(); break;
            case 23: call("places", near(10)); break;
            case 24: call("back", tongue, most(4)); readResult(); break;
            case 25: case 26: call("differ", tongue, near(tongues), most(4)); readResult(); break;
            case 27: call("loses", tongue, most(4)); readResult(); break;
            case 28: case 29: call("stand", tongue, near(plain.countOwn(tongue)), most(4)); break;
            case 30: call("meaning"); break;
            case 31: call("form", near(meanings), tongue); break;
            case 32: call("roots", near(meanings), most(4)); readResult(); break;
            case 33: call("some", near(meanings), most(4)); readResult(); break;
            case 34: call("explain", most(4)); break;
            case 35: mixUp(tongue); call("order", tongue, most(3)); readRow(tongue); break;
            case 36: call("few", tongue, most(3)); readRow(tongue); break;
            case 37: call("cost", near(100)); break;
            case 38: call("match", near(meanings), tongue, near(tongues)); break;
            case 39: call("put", near(9)); break;
            case 40: case 41: tellSteps(tongue); break;
            case 42: call("keep"); break;
            case 43: call("again"); break;
            case 44: call("told", near(8)); break;
            default: sweepTold(); break;
        }
    }

    private void readResult() {
        int size = call("result", -1);
        for (int i = 0; i < size; i++) {
            call("result", i);
        }
    }

    /** Laws out of the order that the forms were made by, so that order() has something to find. */
    private void mixUp(int tongue) {
        for (int i = random.nextInt(4); i > 0; i--) {
            call("swap", tongue, near(plain.countOwn(tongue) - 1));
        }
    }

    private void readRow(int tongue) {
        int laws = call("laws", tongue);
        for (int k = 0; k < laws; k++) {
            call("lawAt", tongue, k);
        }
    }

    private void tellSteps(int tongue) {
        if (tongue >= 0 && tongue < plain.countTongues()) {
            List<Integer> steps = plain.steps(tongue);
            if (steps != null) {
                int flaw = random.nextInt(4) == 0 ? random.nextInt(steps.size() + 1) : -1;
                int end = random.nextInt(4) == 0 ? random.nextInt(steps.size() + 1) : steps.size();
                for (int i = 0; i < end; i++) {
                    call("put", steps.get(i) + (i == flaw ? 1 : 0));
                }
                if (random.nextInt(5) == 0) {
                    call("put", random.nextInt(3));
                }
            }
        }
        call("check", tongue);
        call("told", 6);
    }

    private void sweepTold() {
        for (int what = 0; what < 8; what++) {
            call("told", what);
        }
    }

    private int call(String name, int... a) {
        int due = plain.call(name, a);
        if (made == MOST_CALLS) {
            return due;
        }
        made++;
        int got = Desks.call(desk, name, a);
        calls.append(name).append(java.util.Arrays.toString(a)).append(" = ").append(got);
        if (got != due) {
            right = false;
            calls.append(" but due is ").append(due);
        }
        calls.append('\n');
        return due;
    }
}
