import java.util.Arrays;

/**
 * A desk of sound laws: words of a family of tongues are led through laws, one behind the other,
 * forward and backward; what tongues lead apart and what they lead together is told, root words
 * that explain most are sought, laws are put in order, words are matched, and told steps are
 * checked.
 */
public final class SoundDesk {
    private static final int BEYOND = -1;
    private static final int MISSING = -2;
    private static final int FULL = -3;
    private static final int KIND = -4;
    private static final int NONE = -5;
    private static final int LONG = -6;

    private static final int MOST_WAITING = 300;
    private static final int MOST_SAID = 8;
    private static final int MOST_GAP = 99;
    private static final int LONGEST_TRIED = 4;
    private static final int LONGEST_ARRANGED = 3;
    private static final int MOST_ARRANGED = 4;

    private final Finder finder = new Finder();
    private final State now = finder.state;
    private final State kept = new State();
    private final int[] waiting = new int[MOST_WAITING];
    private int waitingCount = 0;
    private boolean anythingKept = false;
    private int findings = 0;

    public SoundDesk() {
    }

    // ---- sounds, laws

    public int sound(int kind, int yes, int no) {
        if (!Sounds.isKind(kind) || !Sounds.isRow(yes, no)) {
            return found(BEYOND);
        }
        if (now.sounds.count == Sounds.MOST) {
            return found(FULL);
        }
        int number = now.sounds.add(kind, yes, no);
        now.laws.fitAll(now.sounds);
        return number;
    }

    public int mark(int sound, int mark) {
        if (!now.sounds.has(sound)) {
            return found(BEYOND);
        }
        if (now.sounds.isRowMissing(sound)) {
            return found(MISSING);
        }
        if (mark < 0 || mark >= Sounds.MARKS) {
            return found(BEYOND);
        }
        return now.sounds.markOf(sound, mark);
    }

    public int as(int sound, int kind) {
        if (!now.sounds.has(sound) || !Sounds.isKind(kind)) {
            return found(BEYOND);
        }
        return now.sounds.isOf(sound, kind) ? sound : found(KIND);
    }

    public int law(int kind) {
        if (!Laws.isKind(kind)) {
            return found(BEYOND);
        }
        if (now.laws.count == Laws.MOST) {
            return found(FULL);
        }
        return now.laws.add(kind, now.sounds);
    }

    public int set(int law, int which, int kind, int yes, int no) {
        if (!now.laws.has(law) || !Laws.isSet(which, kind, yes, no)) {
            return found(BEYOND);
        }
        now.laws.define(Laws.setPlace(law, which), kind, yes, no, now.sounds);
        return 0;
    }

    public int becomes(int law, int how, int sound) {
        if (!now.laws.has(law) || !Laws.isHow(how)) {
            return found(BEYOND);
        }
        boolean dropped = how == Laws.DROPPED;
        if (!dropped && !now.sounds.has(sound)) {
            return found(BEYOND);
        }
        now.laws.how[law] = how;
        now.laws.into[law] = dropped ? 0 : sound;
        return 0;
    }

    // ---- tongues

    public int tongue(int parent) {
        if (parent != Tongues.NO_PARENT && !now.tongues.has(parent)) {
            return found(BEYOND);
        }
        if (now.tongues.count == Tongues.MOST) {
            return found(FULL);
        }
        return now.tongues.add(parent);
    }

    public int give(int tongue, int law) {
        if (!now.tongues.has(tongue) || !now.laws.has(law)) {
            return found(BEYOND);
        }
        if (now.tongues.ownCount[tongue] == Tongues.MOST_OWN) {
            return found(FULL);
        }
        return now.tongues.append(tongue, law);
    }

    public int swap(int tongue, int k) {
        if (!now.tongues.hasPair(tongue, k)) {
            return found(BEYOND);
        }
        now.tongues.exchange(tongue, k);
        return 0;
    }

    public int laws(int tongue) {
        if (!now.tongues.has(tongue)) {
            return found(BEYOND);
        }
        finder.row.fill(now.tongues, tongue);
        return finder.row.count;
    }

    public int lawAt(int tongue, int k) {
        if (!now.tongues.has(tongue)) {
            return found(BEYOND);
        }
        finder.row.fill(now.tongues, tongue);
        if (k < 0 || k >= finder.row.count) {
            return found(NONE);
        }
        return finder.row.law[k];
    }

    // ---- words

    public int say(int sound) {
        if (!now.sounds.has(sound)) {
            return found(BEYOND);
        }
        if (Words.size(now.word) == MOST_SAID) {
            return found(FULL);
        }
        now.word = Words.add(now.word, sound);
        return Words.size(now.word);
    }

    public int hush() {
        int had = Words.size(now.word);
        now.word = Words.EMPTY;
        return had;
    }

    public int result(int i) {
        int size = Words.size(now.outcome);
        if (i == -1) {
            return size;
        }
        if (i < 0 || i >= size) {
            return found(NONE);
        }
        return Words.soundAt(now.outcome, i);
    }

    public int led(int tongue) {
        if (!now.tongues.has(tongue)) {
            return found(BEYOND);
        }
        long goal = finder.walk(tongue);
        if (goal == Words.NOWHERE) {
            return found(LONG);
        }
        now.latest.copyFrom(finder.path);
        return shown(goal);
    }

    public int step(int k) {
        if (!now.latest.has(k)) {
            return found(NONE);
        }
        return shown(now.latest.word[k]);
    }

    public int places(int k) {
        if (!now.latest.has(k)) {
            return found(NONE);
        }
        return now.latest.touched[k];
    }

    // ---- backward, alike

    public int back(int tongue, int most) {
        if (!now.tongues.has(tongue) || !isTried(most)) {
            return found(BEYOND);
        }
        return finder.countLeadingHere(tongue, most);
    }

    public int differ(int tongue, int other, int most) {
        if (!now.tongues.has(tongue) || !now.tongues.has(other) || !isTried(most)) {
            return found(BEYOND);
        }
        long word = finder.firstLedApart(tongue, other, most);
        return word == Words.NOWHERE ? found(NONE) : shown(word);
    }

    public int loses(int tongue, int most) {
        if (!now.tongues.has(tongue) || !isTried(most)) {
            return found(BEYOND);
        }
        return finder.countLost(tongue, most);
    }

    public int stand(int tongue, int k, int most) {
        if (!now.tongues.hasPair(tongue, k) || !isTried(most)) {
            return found(BEYOND);
        }
        return finder.standing(now.tongues.own[tongue][k], now.tongues.own[tongue][k + 1], most);
    }

    // ---- meanings

    public int meaning() {
        if (now.meanings.count == Meanings.MOST) {
            return found(FULL);
        }
        return now.meanings.add();
    }

    public int form(int meaning, int tongue) {
        if (!now.meanings.has(meaning) || !now.tongues.has(tongue)) {
            return found(BEYOND);
        }
        now.meanings.form[meaning][tongue] = now.word;
        return now.meanings.countForms(meaning);
    }

    public int roots(int meaning, int most) {
        if (!now.meanings.has(meaning) || !isTried(most)) {
            return found(BEYOND);
        }
        return finder.countRoots(meaning, most);
    }

    public int some(int meaning, int most) {
        if (!now.meanings.has(meaning) || !isTried(most)) {
            return found(BEYOND);
        }
        if (now.meanings.countForms(meaning) == 0) {
            return found(NONE);
        }
        return finder.mostAgreeing(meaning, most);
    }

    public int explain(int most) {
        if (!isTried(most)) {
            return found(BEYOND);
        }
        return finder.countExplained(most);
    }

    public int order(int tongue, int most) {
        if (!now.tongues.has(tongue) || !isArranged(most)) {
            return found(BEYOND);
        }
        if (now.tongues.ownCount[tongue] > MOST_ARRANGED) {
            return found(LONG);
        }
        return finder.arrange(tongue, most);
    }

    public int few(int tongue, int most) {
        if (!now.tongues.has(tongue) || !isArranged(most)) {
            return found(BEYOND);
        }
        if (now.tongues.ownCount[tongue] > MOST_ARRANGED) {
            return found(LONG);
        }
        return finder.fewest(tongue, most);
    }

    public int cost(int gap) {
        if (gap < 0 || gap > MOST_GAP) {
            return found(BEYOND);
        }
        int was = now.gap;
        now.gap = gap;
        return was;
    }

    public int match(int meaning, int tongue, int other) {
        if (!now.meanings.has(meaning) || !now.tongues.has(tongue) || !now.tongues.has(other)) {
            return found(BEYOND);
        }
        long one = now.meanings.form[meaning][tongue];
        long two = now.meanings.form[meaning][other];
        if (one == Meanings.NO_FORM || two == Meanings.NO_FORM) {
            return found(NONE);
        }
        return finder.leastCost(one, two);
    }

    // ---- checking, keeping

    public int put(int v) {
        if (waitingCount == MOST_WAITING) {
            return found(FULL);
        }
        waiting[waitingCount] = v;
        waitingCount++;
        return waitingCount;
    }

    public int check(int tongue) {
        int count = waitingCount;
        waitingCount = 0;
        if (!now.tongues.has(tongue)) {
            return found(BEYOND);
        }
        if (finder.walk(tongue) == Words.NOWHERE) {
            return found(LONG);
        }
        return finder.path.firstWrong(waiting, count);
    }

    public int keep() {
        kept.takeOver(now);
        anythingKept = true;
        return 1;
    }

    public int again() {
        if (!anythingKept) {
            return found(NONE);
        }
        now.takeOver(kept);
        return 1;
    }

    public int told(int what) {
        switch (what) {
            case 0:
                return now.sounds.count;
            case 1:
                return now.laws.count;
            case 2:
                return now.tongues.count;
            case 3:
                return now.meanings.count;
            case 4:
                return Words.size(now.word);
            case 5:
                return now.latest.count;
            case 6:
                return waitingCount;
            case 7:
                return findings;
            default:
                return found(BEYOND);
        }
    }

    private int found(int finding) {
        findings++;
        return finding;
    }

    private int shown(long word) {
        now.outcome = word;
        return Words.size(word);
    }

    private static boolean isTried(int most) {
        return most >= 0 && most <= LONGEST_TRIED;
    }

    private static boolean isArranged(int most) {
        return most >= 0 && most <= LONGEST_ARRANGED;
    }

    /**
     * Words as numbers: a 1, and behind it the sounds, three bits each, the last one lowest. So two
     * words are the same when their numbers are, a word ahead of another one has the lower number,
     * and no word needs an array of its own.
     */
    private static final class Words {
        static final long NOWHERE = 0L;
        static final long EMPTY = 1L;
        static final int MOST = 16;
        static final int NO_SOUND = 8;
        private static final int BITS = 3;
        private static final int LOWEST = 7;
        private static final long TOO_LONG = 1L << (BITS * (MOST + 1));

        private Words() {
        }

        static boolean isTooLong(long word) {
            return word >= TOO_LONG;
        }

        static long add(long word, int sound) {
            return (word << BITS) | (sound & LOWEST);
        }

        static int last(long word) {
            return word > EMPTY ? (int) (word & LOWEST) : NO_SOUND;
        }

        static long withoutLast(long word) {
            return word > EMPTY ? word >>> BITS : word;
        }

        static int size(long word) {
            int size = 0;
            long rest = word;
            for (int i = 0; i < MOST && rest > EMPTY; i++) {
                rest = withoutLast(rest);
                size++;
            }
            return size;
        }

        static int soundAt(long word, int i) {
            int behind = size(word) - 1 - i;
            return (int) (word >>> (BITS * behind)) & LOWEST;
        }

        static long turned(long word) {
            if (word == NOWHERE) {
                return NOWHERE;
            }
            long turned = EMPTY;
            long rest = word;
            for (int i = 0; i < MOST && rest > EMPTY; i++) {
                turned = add(turned, last(rest));
                rest = withoutLast(rest);
            }
            return turned;
        }

        /** How many words there are of at most so many sounds. */
        static int howMany(int sounds, int most) {
            int ofThisSize = 1;
            int all = 1;
            for (int size = 1; size <= most; size++) {
                ofThisSize *= sounds;
                all += ofThisSize;
            }
            return all;
        }

        /** The word that comes right behind a word, when there are so many sounds. */
        static long next(long word, int sounds) {
            int shift = 0;
            for (int i = 0; i < MOST && (word >>> shift) > EMPTY; i++) {
                long head = word >>> shift;
                if (last(head) + 1 < sounds) {
                    return (head + 1) << shift;
                }
                shift += BITS;
            }
            return EMPTY << (shift + BITS);
        }
    }

    private static final class Sounds {
        static final int MOST = 8;
        static final int MARKS = 8;
        private static final int ALL_MARKS = 255;
        private static final int ROW_MISSING = -1;
        static final int ANY_SOUND = 0;
        private static final int VOWEL = 1;
        private static final int GLIDE = 2;
        private static final int STOP = 3;
        private static final int BREATH = 4;
        private static final int NO = 0;
        private static final int YES = 1;
        private static final int NOT_TOLD = 2;

        int count = 0;
        /** Bit s: the row of sound s is missing. */
        private int missingRows = 0;
        private final int[] kind = new int[MOST];
        private final int[] yes = new int[MOST];
        private final int[] no = new int[MOST];

        static boolean isKind(int kind) {
            return kind >= ANY_SOUND && kind <= BREATH;
        }

        static boolean isMarks(int marks) {
            return marks >= 0 && marks <= ALL_MARKS;
        }

        static boolean isRow(int yes, int no) {
            if (yes == ROW_MISSING && no == ROW_MISSING) {
                return true;
            }
            return isMarks(yes) && isMarks(no) && (yes & no) == 0;
        }

        void copyFrom(Sounds other) {
            count = other.count;
            missingRows = other.missingRows;
            System.arraycopy(other.kind, 0, kind, 0, MOST);
            System.arraycopy(other.yes, 0, yes, 0, MOST);
            System.arraycopy(other.no, 0, no, 0, MOST);
        }

        boolean has(int sound) {
            return sound >= 0 && sound < count;
        }

        int add(int newKind, int newYes, int newNo) {
            int number = count;
            boolean missing = newYes == ROW_MISSING;
            if (missing) {
                missingRows |= 1 << number;
            }
            kind[number] = newKind;
            yes[number] = missing ? 0 : newYes;
            no[number] = missing ? 0 : newNo;
            count++;
            return number;
        }

        boolean isRowMissing(int sound) {
            return ((missingRows >> sound) & 1) == 1;
        }

        int markOf(int sound, int mark) {
            if (((yes[sound] >> mark) & 1) == 1) {
                return YES;
            }
            return ((no[sound] >> mark) & 1) == 1 ? NO : NOT_TOLD;
        }

        boolean isOf(int sound, int asked) {
            int own = kind[sound];
            return asked == ANY_SOUND
                    || asked == own
                    || asked == VOWEL && own == GLIDE
                    || asked == STOP && own == BREATH;
        }

        boolean fits(int sound, int asked, int mustYes, int mustNo) {
            return isOf(sound, asked)
                    && (yes[sound] & mustYes) == mustYes
                    && (no[sound] & mustNo) == mustNo;
        }

        int apart(int one, int two) {
            if (one == two) {
                return 0;
            }
            return 1 + Integer.bitCount(yes[one] & no[two]) + Integer.bitCount(no[one] & yes[two]);
        }
    }

    /** The laws; what fits a set is held as bits: bit s for sound s, and one more for no sound. */
    private static final class Laws {
        static final int MOST = 16;
        static final int DROPPED = 1;
        private static final int BECOMES = 0;
        private static final int FOLLOWED = 2;
        private static final int PLAIN = 0;
        private static final int LEFTWARD = 1;
        private static final int RIGHTWARD = 2;
        private static final int ONCE = 3;
        private static final int SETS = 3;
        private static final int TARGET = 0;
        private static final int LEFT = 1;
        private static final int RIGHT = 2;
        private static final int EDGE = -1;
        private static final int ANY = -2;
        private static final int FITS_NO_SOUND = 1 << Words.NO_SOUND;
        private static final int FITS_ALWAYS = FITS_NO_SOUND | (FITS_NO_SOUND - 1);

        int count = 0;
        /** At how many places the law that led latest changed something; it is not kept. */
        int touched = 0;
        final int[] how = new int[MOST];
        final int[] into = new int[MOST];
        private final int[] kind = new int[MOST];
        private final int[] setKind = new int[MOST * SETS];
        private final int[] setYes = new int[MOST * SETS];
        private final int[] setNo = new int[MOST * SETS];
        private final int[] fitting = new int[MOST * SETS];

        static boolean isKind(int kind) {
            return kind >= PLAIN && kind <= ONCE;
        }

        static boolean isHow(int how) {
            return how >= BECOMES && how <= FOLLOWED;
        }

        static boolean isSet(int which, int kind, int yes, int no) {
            if (which < TARGET || which > RIGHT) {
                return false;
            }
            if (kind == EDGE || kind == ANY) {
                return which != TARGET && yes == 0 && no == 0;
            }
            return Sounds.isKind(kind) && Sounds.isMarks(yes) && Sounds.isMarks(no);
        }

        static int setPlace(int law, int which) {
            return law * SETS + which;
        }

        void copyFrom(Laws other) {
            count = other.count;
            System.arraycopy(other.how, 0, how, 0, MOST);
            System.arraycopy(other.into, 0, into, 0, MOST);
            System.arraycopy(other.kind, 0, kind, 0, MOST);
            System.arraycopy(other.setKind, 0, setKind, 0, MOST * SETS);
            System.arraycopy(other.setYes, 0, setYes, 0, MOST * SETS);
            System.arraycopy(other.setNo, 0, setNo, 0, MOST * SETS);
            System.arraycopy(other.fitting, 0, fitting, 0, MOST * SETS);
        }

        boolean has(int law) {
            return law >= 0 && law < count;
        }

        int add(int newKind, Sounds sounds) {
            int number = count;
            kind[number] = newKind;
            how[number] = DROPPED;
            into[number] = 0;
            define(setPlace(number, TARGET), Sounds.ANY_SOUND, 0, 0, sounds);
            define(setPlace(number, LEFT), ANY, 0, 0, sounds);
            define(setPlace(number, RIGHT), ANY, 0, 0, sounds);
            count++;
            return number;
        }

        void define(int place, int newKind, int yes, int no, Sounds sounds) {
            setKind[place] = newKind;
            setYes[place] = yes;
            setNo[place] = no;
            fitting[place] = fittingBits(place, sounds);
        }

        /** A new sound may fit sets that were told ahead of it. */
        void fitAll(Sounds sounds) {
            for (int place = 0; place < count * SETS; place++) {
                fitting[place] = fittingBits(place, sounds);
            }
        }

        private int fittingBits(int place, Sounds sounds) {
            if (setKind[place] == ANY) {
                return FITS_ALWAYS;
            }
            if (setKind[place] == EDGE) {
                return FITS_NO_SOUND;
            }
            int bits = 0;
            for (int sound = 0; sound < sounds.count; sound++) {
                if (sounds.fits(sound, setKind[place], setYes[place], setNo[place])) {
                    bits |= 1 << sound;
                }
            }
            return bits;
        }

        long lead(int law, long word) {
            touched = 0;
            if (word == Words.NOWHERE) {
                return Words.NOWHERE;
            }
            int left = fitting[setPlace(law, LEFT)];
            int right = fitting[setPlace(law, RIGHT)];
            if (kind[law] == LEFTWARD) {
                return Words.turned(sweep(law, word, left, right));
            }
            return sweep(law, Words.turned(word), right, left);
        }

        /**
         * Takes the sounds from the end of a word one by one, and puts what becomes of them to the
         * end of another one, which is turned round thereby. What fits on the side that is still to
         * come are the bits ahead, what fits on the side that was gone through the bits done.
         */
        private long sweep(int law, long word, int ahead, int done) {
            boolean once = kind[law] == ONCE;
            boolean flowing = kind[law] == LEFTWARD || kind[law] == RIGHTWARD;
            int target = fitting[setPlace(law, TARGET)];
            int before = Words.NO_SOUND;
            long rest = word;
            long out = Words.EMPTY;
            for (int i = 0; i < Words.MOST && rest > Words.EMPTY; i++) {
                int sound = Words.last(rest);
                rest = Words.withoutLast(rest);
                boolean over = once && touched > 0;
                if (!over
                        && isIn(target, sound)
                        && isIn(done, flowing ? Words.last(out) : before)
                        && isIn(ahead, Words.last(rest))) {
                    touched++;
                    out = addChanged(law, out, sound);
                } else {
                    out = Words.add(out, sound);
                }
                // A law that puts sounds in drops none: what is too long now stays so.
                if (Words.isTooLong(out)) {
                    return Words.NOWHERE;
                }
                before = sound;
            }
            return out;
        }

        private static boolean isIn(int bits, int sound) {
            return ((bits >> sound) & 1) == 1;
        }

        private long addChanged(int law, long out, int sound) {
            if (how[law] == DROPPED) {
                return out;
            }
            if (how[law] == BECOMES) {
                return Words.add(out, into[law]);
            }
            if (kind[law] == LEFTWARD) {
                return Words.add(Words.add(out, into[law]), sound);
            }
            return Words.add(Words.add(out, sound), into[law]);
        }
    }

    private static final class Tongues {
        static final int MOST = 6;
        static final int MOST_OWN = 6;
        static final int NO_PARENT = -1;

        int count = 0;
        final int[] parent = new int[MOST];
        final int[] ownCount = new int[MOST];
        final int[][] own = new int[MOST][MOST_OWN];

        void copyFrom(Tongues other) {
            count = other.count;
            System.arraycopy(other.parent, 0, parent, 0, MOST);
            System.arraycopy(other.ownCount, 0, ownCount, 0, MOST);
            for (int tongue = 0; tongue < MOST; tongue++) {
                System.arraycopy(other.own[tongue], 0, own[tongue], 0, MOST_OWN);
            }
        }

        boolean has(int tongue) {
            return tongue >= 0 && tongue < count;
        }

        boolean hasPair(int tongue, int k) {
            return has(tongue) && k >= 0 && k < ownCount[tongue] - 1;
        }

        int add(int newParent) {
            int number = count;
            parent[number] = newParent;
            ownCount[number] = 0;
            count++;
            return number;
        }

        int append(int tongue, int law) {
            own[tongue][ownCount[tongue]] = law;
            ownCount[tongue]++;
            return ownCount[tongue];
        }

        void exchange(int tongue, int k) {
            int first = own[tongue][k];
            own[tongue][k] = own[tongue][k + 1];
            own[tongue][k + 1] = first;
        }
    }

    /** All laws of a tongue, those of its parent first. */
    private static final class Row {
        static final int MOST = Tongues.MOST * Tongues.MOST_OWN;

        int count = 0;
        final int[] law = new int[MOST];

        void fill(Tongues tongues, int tongue) {
            count = 0;
            int line = lineOf(tongues, tongue);
            // A parent is a lower tongue, so the lowest of the line comes first.
            for (int t = 0; t < tongues.count; t++) {
                if (((line >> t) & 1) == 1) {
                    System.arraycopy(tongues.own[t], 0, law, count, tongues.ownCount[t]);
                    count += tongues.ownCount[t];
                }
            }
        }

        private static int lineOf(Tongues tongues, int tongue) {
            int line = 0;
            int t = tongue;
            for (int i = 0; i < Tongues.MOST && t != Tongues.NO_PARENT; i++) {
                line |= 1 << t;
                t = tongues.parent[t];
            }
            return line;
        }

        long leadAlong(Laws laws, long word) {
            long at = word;
            for (int k = 0; k < count && at != Words.NOWHERE; k++) {
                at = laws.lead(law[k], at);
            }
            return at;
        }
    }

    private static final class Meanings {
        static final int MOST = 8;
        static final long NO_FORM = Words.NOWHERE;

        int count = 0;
        final long[][] form = new long[MOST][Tongues.MOST];

        void copyFrom(Meanings other) {
            count = other.count;
            for (int meaning = 0; meaning < MOST; meaning++) {
                System.arraycopy(other.form[meaning], 0, form[meaning], 0, Tongues.MOST);
            }
        }

        boolean has(int meaning) {
            return meaning >= 0 && meaning < count;
        }

        int add() {
            int number = count;
            for (int tongue = 0; tongue < Tongues.MOST; tongue++) {
                form[number][tongue] = NO_FORM;
            }
            count++;
            return number;
        }

        int countForms(int meaning) {
            int forms = 0;
            for (int tongue = 0; tongue < Tongues.MOST; tongue++) {
                if (form[meaning][tongue] != NO_FORM) {
                    forms++;
                }
            }
            return forms;
        }

        /** How many tongues with a form have it as their goal. */
        int countAgreeing(int meaning, long[] goals) {
            int agreeing = 0;
            for (int tongue = 0; tongue < Tongues.MOST; tongue++) {
                if (form[meaning][tongue] != NO_FORM && form[meaning][tongue] == goals[tongue]) {
                    agreeing++;
                }
            }
            return agreeing;
        }

        boolean isRooted(int meaning, long[] goals) {
            int forms = countForms(meaning);
            return forms > 0 && countAgreeing(meaning, goals) == forms;
        }

        /** Bit m: meaning m has a form. */
        int withForms() {
            int bits = 0;
            for (int meaning = 0; meaning < count; meaning++) {
                if (countForms(meaning) > 0) {
                    bits |= 1 << meaning;
                }
            }
            return bits;
        }
    }

    /** The words that a word was led through, law by law, and at how many places each changed. */
    private static final class Path {
        int count = 0;
        final long[] word = new long[Row.MOST];
        final int[] touched = new int[Row.MOST];

        void copyFrom(Path other) {
            count = other.count;
            System.arraycopy(other.word, 0, word, 0, Row.MOST);
            System.arraycopy(other.touched, 0, touched, 0, Row.MOST);
        }

        boolean has(int k) {
            return k >= 0 && k < count;
        }

        /** 0 when the numbers tell just these steps, else 1 more than the first wrong one. */
        int firstWrong(int[] numbers, int numberCount) {
            int at = 0;
            for (int k = 0; k < count; k++) {
                if (!isTold(word[k], numbers, at, numberCount)) {
                    return k + 1;
                }
                at += 1 + Words.size(word[k]);
            }
            return at < numberCount ? count + 1 : 0;
        }

        private static boolean isTold(long word, int[] numbers, int at, int numberCount) {
            int size = Words.size(word);
            if (at + size >= numberCount || numbers[at] != size) {
                return false;
            }
            for (int i = 0; i < size; i++) {
                if (numbers[at + 1 + i] != Words.soundAt(word, i)) {
                    return false;
                }
            }
            return true;
        }
    }

    /** All that keep() keeps. */
    private static final class State {
        private static final int FIRST_GAP = 3;

        final Sounds sounds = new Sounds();
        final Laws laws = new Laws();
        final Tongues tongues = new Tongues();
        final Meanings meanings = new Meanings();
        final Path latest = new Path();
        long word = Words.EMPTY;
        long outcome = Words.EMPTY;
        int gap = FIRST_GAP;

        void takeOver(State other) {
            sounds.copyFrom(other.sounds);
            laws.copyFrom(other.laws);
            tongues.copyFrom(other.tongues);
            meanings.copyFrom(other.meanings);
            latest.copyFrom(other.latest);
            word = other.word;
            outcome = other.outcome;
            gap = other.gap;
        }
    }

    /** A set of words, with room for all words of at most four sounds. */
    private static final class WordSet {
        private static final int SLOTS = 8192;
        private static final int TO_SLOT = 51;
        private static final long SPREAD = 0x9E3779B97F4A7C15L;
        private static final long FREE = Words.NOWHERE;

        private final long[] slot = new long[SLOTS];

        void clear() {
            Arrays.fill(slot, FREE);
        }

        /** Whether the word was not there yet. */
        boolean isNew(long word) {
            int first = (int) ((word * SPREAD) >>> TO_SLOT);
            for (int i = 0; i < SLOTS; i++) {
                int at = (first + i) & (SLOTS - 1);
                if (slot[at] == word) {
                    return false;
                }
                if (slot[at] == FREE) {
                    slot[at] = word;
                    return true;
                }
            }
            return true;
        }
    }

    /** Leads words, one or SOME WORDS; its rows are made once and used by all calls. */
    private static final class Finder {
        private static final int MOST_ORDERS = 24;
        private static final int NOT_IDLE = 4;
        private static final int MORE = 1;
        private static final int FEWER = 2;

        final State state = new State();
        final Row row = new Row();
        final Path path = new Path();
        private final Row otherRow = new Row();
        private final WordSet seen = new WordSet();
        private final long[] goals = new long[Tongues.MOST];
        private final int[] standingLaws = new int[MOST_ARRANGED];
        private final int[] seats = new int[MOST_ARRANGED];
        private final int[] bestSeats = new int[MOST_ARRANGED];
        private final int[] costs = new int[MOST_SAID + 1];

        /** Leads THE WORD by a tongue, and notes each step. */
        long walk(int tongue) {
            row.fill(state.tongues, tongue);
            path.count = row.count;
            long at = state.word;
            for (int k = 0; k < row.count && at != Words.NOWHERE; k++) {
                at = state.laws.lead(row.law[k], at);
                path.word[k] = at;
                path.touched[k] = state.laws.touched;
            }
            return at;
        }

        int countLeadingHere(int tongue, int most) {
            row.fill(state.tongues, tongue);
            int count = 0;
            int sounds = state.sounds.count;
            int words = Words.howMany(sounds, most);
            long word = Words.EMPTY;
            for (int i = 0; i < words; i++) {
                if (row.leadAlong(state.laws, word) == state.word) {
                    showFirst(word, count);
                    count++;
                }
                word = Words.next(word, sounds);
            }
            return count;
        }

        /** The first word that two tongues lead not alike; NOWHERE when there is none. */
        long firstLedApart(int tongue, int other, int most) {
            row.fill(state.tongues, tongue);
            otherRow.fill(state.tongues, other);
            int sounds = state.sounds.count;
            int words = Words.howMany(sounds, most);
            long word = Words.EMPTY;
            for (int i = 0; i < words; i++) {
                if (row.leadAlong(state.laws, word) != otherRow.leadAlong(state.laws, word)) {
                    return word;
                }
                word = Words.next(word, sounds);
            }
            return Words.NOWHERE;
        }

        int countLost(int tongue, int most) {
            row.fill(state.tongues, tongue);
            seen.clear();
            int count = 0;
            int sounds = state.sounds.count;
            int words = Words.howMany(sounds, most);
            long word = Words.EMPTY;
            for (int i = 0; i < words; i++) {
                long goal = row.leadAlong(state.laws, word);
                if (goal != Words.NOWHERE && !seen.isNew(goal)) {
                    showFirst(word, count);
                    count++;
                }
                word = Words.next(word, sounds);
            }
            return count;
        }

        private void showFirst(long word, int foundAhead) {
            if (foundAhead == 0) {
                state.outcome = word;
            }
        }

        /** How law a and law b behind it stand. */
        int standing(int a, int b, int most) {
            boolean alike = true;
            int changes = 0;
            int sounds = state.sounds.count;
            int words = Words.howMany(sounds, most);
            long word = Words.EMPTY;
            for (int i = 0; i < words; i++) {
                long behindA = state.laws.lead(a, word);
                long behindBoth = state.laws.lead(b, behindA);
                int touchedBehindA = state.laws.touched;
                long behindB = state.laws.lead(b, word);
                int touchedAlone = state.laws.touched;
                if (behindA != Words.NOWHERE && touchedBehindA > touchedAlone) {
                    changes |= MORE;
                }
                if (behindA != Words.NOWHERE && touchedBehindA < touchedAlone) {
                    changes |= FEWER;
                }
                if (behindBoth != state.laws.lead(a, behindB)) {
                    alike = false;
                }
                word = Words.next(word, sounds);
            }
            return alike ? 0 : NOT_IDLE + changes;
        }

        /** A tongue goes on from where its parent led to, so no own law leads a word twice. */
        private void leadByAll(long word) {
            for (int tongue = 0; tongue < state.tongues.count; tongue++) {
                int parent = state.tongues.parent[tongue];
                long at = parent == Tongues.NO_PARENT ? word : goals[parent];
                for (int k = 0; k < state.tongues.ownCount[tongue]; k++) {
                    at = state.laws.lead(state.tongues.own[tongue][k], at);
                }
                goals[tongue] = at;
            }
        }

        int countRoots(int meaning, int most) {
            int count = 0;
            int sounds = state.sounds.count;
            int words = Words.howMany(sounds, most);
            long word = Words.EMPTY;
            for (int i = 0; i < words; i++) {
                leadByAll(word);
                if (state.meanings.isRooted(meaning, goals)) {
                    showFirst(word, count);
                    count++;
                }
                word = Words.next(word, sounds);
            }
            return count;
        }

        int mostAgreeing(int meaning, int most) {
            int best = -1;
            int sounds = state.sounds.count;
            int words = Words.howMany(sounds, most);
            long word = Words.EMPTY;
            for (int i = 0; i < words; i++) {
                leadByAll(word);
                int agreeing = state.meanings.countAgreeing(meaning, goals);
                if (agreeing > best) {
                    best = agreeing;
                    state.outcome = word;
                }
                word = Words.next(word, sounds);
            }
            return best;
        }

        int countExplained(int most) {
            int wanted = state.meanings.withForms();
            int explained = 0;
            int sounds = state.sounds.count;
            int words = Words.howMany(sounds, most);
            long word = Words.EMPTY;
            for (int i = 0; i < words && explained != wanted; i++) {
                leadByAll(word);
                for (int meaning = 0; meaning < state.meanings.count; meaning++) {
                    if (state.meanings.isRooted(meaning, goals)) {
                        explained |= 1 << meaning;
                    }
                }
                word = Words.next(word, sounds);
            }
            return Integer.bitCount(explained);
        }

        /** Puts the own laws of a tongue into the first order that explains most. */
        int arrange(int tongue, int most) {
            int size = state.tongues.ownCount[tongue];
            int best = -1;
            noteStandingLaws(tongue, size);
            for (int i = 0; i < MOST_ORDERS; i++) {
                seat(tongue, size, seats);
                int explained = countExplained(most);
                if (explained > best) {
                    best = explained;
                    System.arraycopy(seats, 0, bestSeats, 0, size);
                }
                if (!nextSeats(size)) {
                    break;
                }
            }
            seat(tongue, size, bestSeats);
            return best;
        }

        private void noteStandingLaws(int tongue, int size) {
            for (int k = 0; k < size; k++) {
                standingLaws[k] = state.tongues.own[tongue][k];
                seats[k] = k;
            }
        }

        private void seat(int tongue, int size, int[] order) {
            for (int k = 0; k < size; k++) {
                state.tongues.own[tongue][k] = standingLaws[order[k]];
            }
        }

        /** Makes the next greater row of seats; false when there is none. */
        private boolean nextSeats(int size) {
            int turn = size - 2;
            while (turn >= 0 && seats[turn] > seats[turn + 1]) {
                turn--;
            }
            if (turn < 0) {
                return false;
            }
            int greater = size - 1;
            while (greater > turn && seats[greater] < seats[turn]) {
                greater--;
            }
            exchangeSeats(turn, greater);
            for (int low = turn + 1, high = size - 1; low < high; low++, high--) {
                exchangeSeats(low, high);
            }
            return true;
        }

        private void exchangeSeats(int one, int two) {
            int first = seats[one];
            seats[one] = seats[two];
            seats[two] = first;
        }

        /** The least of the smallest sets of own laws that explain no less than all of them. */
        int fewest(int tongue, int most) {
            int size = state.tongues.ownCount[tongue];
            int all = (1 << size) - 1;
            int due = countExplained(most);
            int best = all;
            noteStandingLaws(tongue, size);
            for (int chosen = 0; chosen < all; chosen++) {
                if (Integer.bitCount(chosen) < Integer.bitCount(best)) {
                    choose(tongue, size, chosen);
                    if (countExplained(most) >= due) {
                        best = chosen;
                    }
                }
            }
            choose(tongue, size, all);
            return best;
        }

        private void choose(int tongue, int size, int chosen) {
            int count = 0;
            for (int k = 0; k < size; k++) {
                if (((chosen >> k) & 1) == 1) {
                    state.tongues.own[tongue][count] = standingLaws[k];
                    count++;
                }
            }
            state.tongues.ownCount[tongue] = count;
        }

        /** The least cost of two forms side by side; costs[j] is that of the first j of two. */
        int leastCost(long one, long two) {
            int gap = state.gap;
            int rows = Words.size(one);
            int columns = Words.size(two);
            for (int j = 0; j <= columns; j++) {
                costs[j] = j * gap;
            }
            for (int i = 1; i <= rows; i++) {
                int slanted = costs[0];
                costs[0] = i * gap;
                for (int j = 1; j <= columns; j++) {
                    int apart = state.sounds.apart(
                            Words.soundAt(one, i - 1), Words.soundAt(two, j - 1));
                    int withGap = Math.min(costs[j], costs[j - 1]) + gap;
                    int paired = slanted + apart;
                    slanted = costs[j];
                    costs[j] = Math.min(withGap, paired);
                }
            }
            return costs[columns];
        }
    }
}
