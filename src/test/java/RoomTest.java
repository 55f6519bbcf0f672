import java.lang.management.ManagementFactory;

/**
 * The largest desk there can be, and its dearest calls: none fails, none takes long, and none makes
 * objects, since all calls of one run share one room. Strange arguments in every state fail nowhere.
 */
public final class RoomTest {
    private static final int[] STRANGE = {Integer.MIN_VALUE, -7, -1, 0, 1, 5, 8, 255, 300, Integer.MAX_VALUE};
    private static final String[] NAMES = {
        "sound", "mark", "as", "law", "set", "becomes", "tongue", "give", "swap", "laws", "lawAt", "say", "hush",
        "result", "led", "step", "places", "back", "differ", "loses", "stand", "meaning", "form", "roots", "some",
        "explain", "order", "few", "cost", "match", "put", "check", "keep", "again", "told"
    };

    private static int wrong = 0;

    private static void due(String what, int want, int got) {
        if (got != want) {
            wrong++;
            System.out.println(what + " answered " + got + ", due is " + want);
        }
    }

    public static void main(String[] args) {
        largest();
        dearCallsMakeNothing();
        strangeArguments();
        System.out.println("room: " + wrong + " wrong");
        if (wrong != 0) {
            System.exit(1);
        }
    }

    /** All is full: each tongue the child of the one before it, all own laws there. */
    private static SoundDesk full(int ownOfLast) {
        SoundDesk x = new SoundDesk();
        for (int i = 0; i < 8; i++) {
            x.sound(i % 5, 1 << i, 255 & ~(1 << i));
        }
        for (int i = 0; i < 16; i++) {
            x.law(i % 4);
            x.set(i, 0, 0, 1 << (i % 8), 0);
            x.becomes(i, 0, (i + 1) % 8);
        }
        for (int t = 0; t < 6; t++) {
            x.tongue(t - 1);
            for (int k = 0; k < (t == 5 ? ownOfLast : 6); k++) {
                x.give(t, (t * 6 + k) % 16);
            }
        }
        for (int i = 0; i < 8; i++) {
            x.say(i);
        }
        for (int m = 0; m < 8; m++) {
            x.meaning();
            for (int t = 0; t < 6; t++) {
                x.form(m, t);
            }
        }
        return x;
    }

    private static void largest() {
        SoundDesk x = full(6);
        due("laws", 36, x.laws(5));
        due("led", 8, x.led(5));
        due("told(5)", 36, x.told(5));
        due("step(35)", 8, x.step(35));
        due("step(36)", -5, x.step(36));
        due("back", 0, x.back(5, 4));
        due("differ", -5, x.differ(5, 5, 4));
        due("explain", 0, x.explain(4));
        due("some", 0, x.some(7, 4));
        due("match", 0, x.match(7, 0, 5));
        due("keep", 1, x.keep());
        due("again", 1, x.again());
        due("told(5)", 36, x.told(5));
    }

    private static void dearCallsMakeNothing() {
        SoundDesk x = full(4);
        dearCalls(x);
        long before = made();
        for (int i = 0; i < 20; i++) {
            dearCalls(x);
        }
        long bytes = made() - before;
        // Counting itself makes a little.
        due("dear calls made objects: " + bytes + " bytes, whether more than counting makes", 0, bytes > 20000 ? 1 : 0);
    }

    private static void dearCalls(SoundDesk x) {
        x.led(5);
        x.back(5, 4);
        x.differ(4, 5, 4);
        x.loses(5, 4);
        x.stand(4, 0, 4);
        x.roots(0, 4);
        x.some(0, 4);
        x.explain(4);
        x.order(5, 3);
        x.few(5, 3);
        x.match(0, 0, 1);
        x.put(1);
        x.check(5);
        x.keep();
        x.again();
    }

    private static long made() {
        com.sun.management.ThreadMXBean threads =
                (com.sun.management.ThreadMXBean) ManagementFactory.getThreadMXBean();
        return threads.getThreadAllocatedBytes(Thread.currentThread().getId());
    }

    private static void strangeArguments() {
        SoundDesk[] desks = {new SoundDesk(), full(4), full(6)};
        int[] a = new int[5];
        for (SoundDesk x : desks) {
            for (String name : NAMES) {
                for (int i = 0; i < 400; i++) {
                    for (int k = 0; k < a.length; k++) {
                        a[k] = STRANGE[(i * (k * 2 + 1) + i / 10 * (k + 1)) % STRANGE.length];
                    }
                    Desks.call(x, name, a);
                }
            }
        }
    }
}
