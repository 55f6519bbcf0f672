import java.util.ArrayList;
import java.util.Arrays;
import java.util.HashSet;
import java.util.List;
import java.util.Set;

/**
 * The document once more, written as slowly and as near to its words as can be, with lists and
 * without any of the class's shortcuts, so that random runs of both can be held against each other.
 */
final class PlainDesk {
    static final int BEYOND = -1, MISSING = -2, FULL = -3, KIND = -4, NONE = -5, LONG = -6;

    private static final class Sound {
        int kind;
        Boolean[] marks = new Boolean[8];
        boolean missing;
    }

    private static final class SetOf {
        int kind;
        int yes;
        int no;

        SetOf(int kind, int yes, int no) {
            this.kind = kind;
            this.yes = yes;
            this.no = no;
        }
    }

    private static final class Law {
        int kind;
        SetOf[] sets = {new SetOf(0, 0, 0), new SetOf(-2, 0, 0), new SetOf(-2, 0, 0)};
        int how = 1;
        int sound = 0;

        Law copy() {
            Law c = new Law();
            c.kind = kind;
            c.sets = sets.clone();
            c.how = how;
            c.sound = sound;
            return c;
        }
    }

    private static final class Tongue {
        int parent;
        List<Integer> own = new ArrayList<>();
    }

    private static final class Cell {
        final int sound;

        Cell(int sound) {
            this.sound = sound;
        }
    }

    private static final class Step {
        List<Integer> word;
        int places;
    }

    private static final class All {
        List<Sound> sounds = new ArrayList<>();
        List<Law> laws = new ArrayList<>();
        List<Tongue> tongues = new ArrayList<>();
        List<List<List<Integer>>> meanings = new ArrayList<>();
        List<Integer> word = new ArrayList<>();
        List<Integer> result = new ArrayList<>();
        List<Step> latest = new ArrayList<>();
        int gap = 3;

        All copy() {
            All c = new All();
            c.sounds.addAll(sounds);
            for (Law law : laws) {
                c.laws.add(law.copy());
            }
            for (Tongue tongue : tongues) {
                Tongue t = new Tongue();
                t.parent = tongue.parent;
                t.own.addAll(tongue.own);
                c.tongues.add(t);
            }
            for (List<List<Integer>> forms : meanings) {
                c.meanings.add(new ArrayList<>(forms));
            }
            c.word = new ArrayList<>(word);
            c.result = new ArrayList<>(result);
            c.latest = new ArrayList<>(latest);
            c.gap = gap;
            return c;
        }
    }

    private All all = new All();
    private All kept = null;
    private final List<Integer> waiting = new ArrayList<>();
    private int findings = 0;

    int call(String name, int... a) {
        int answer = answer(name, a);
        if (answer < 0) {
            findings++;
        }
        return answer;
    }

    private int answer(String name, int[] a) {
        switch (name) {
            case "sound": return sound(a[0], a[1], a[2]);
            case "mark": return mark(a[0], a[1]);
            case "as": return as(a[0], a[1]);
            case "law": return law(a[0]);
            case "set": return set(a[0], a[1], a[2], a[3], a[4]);
            case "becomes": return becomes(a[0], a[1], a[2]);
            case "tongue": return tongue(a[0]);
            case "give": return give(a[0], a[1]);
            case "swap": return swap(a[0], a[1]);
            case "laws": return noTongue(a[0]) ? BEYOND : rowOf(a[0]).size();
            case "lawAt": return lawAt(a[0], a[1]);
            case "say": return say(a[0]);
            case "hush": return hush();
            case "result": return result(a[0]);
            case "led": return led(a[0]);
            case "step": return step(a[0]);
            case "places": return a[0] < 0 || a[0] >= all.latest.size() ? NONE : all.latest.get(a[0]).places;
            case "back": return back(a[0], a[1]);
            case "differ": return differ(a[0], a[1], a[2]);
            case "loses": return loses(a[0], a[1]);
            case "stand": return stand(a[0], a[1], a[2]);
            case "meaning": return meaning();
            case "form": return form(a[0], a[1]);
            case "roots": return roots(a[0], a[1]);
            case "some": return some(a[0], a[1]);
            case "explain": return a[0] < 0 || a[0] > 4 ? BEYOND : explained(a[0]);
            case "order": return order(a[0], a[1]);
            case "few": return few(a[0], a[1]);
            case "cost": return cost(a[0]);
            case "match": return match(a[0], a[1], a[2]);
            case "put": return put(a[0]);
            case "check": return check(a[0]);
            case "keep": kept = all.copy(); return 1;
            case "again": return again();
            case "told": return told(a[0]);
            default: throw new IllegalArgumentException(name);
        }
    }

    int countSounds() {
        return all.sounds.size();
    }

    int countLaws() {
        return all.laws.size();
    }

    int countTongues() {
        return all.tongues.size();
    }

    int countMeanings() {
        return all.meanings.size();
    }

    int countOwn(int tongue) {
        return noTongue(tongue) ? 0 : all.tongues.get(tongue).own.size();
    }

    List<Integer> theWord() {
        return all.word;
    }

    /** The numbers that check() wants of a tongue; null when the word is led nowhere. */
    List<Integer> steps(int tongue) {
        List<Integer> numbers = new ArrayList<>();
        List<Integer> at = all.word;
        for (int law : rowOf(tongue)) {
            at = apply(law, at, new int[1]);
            if (at == null) {
                return null;
            }
            numbers.add(at.size());
            numbers.addAll(at);
        }
        return numbers;
    }

    private boolean noSound(int sound) {
        return sound < 0 || sound >= all.sounds.size();
    }

    private boolean noLaw(int law) {
        return law < 0 || law >= all.laws.size();
    }

    private boolean noTongue(int tongue) {
        return tongue < 0 || tongue >= all.tongues.size();
    }

    private boolean noMeaning(int meaning) {
        return meaning < 0 || meaning >= all.meanings.size();
    }

    private int sound(int kind, int yes, int no) {
        if (kind < 0 || kind > 4) {
            return BEYOND;
        }
        Sound s = new Sound();
        s.kind = kind;
        if (yes == -1 && no == -1) {
            s.missing = true;
        } else {
            if (yes < 0 || yes > 255 || no < 0 || no > 255) {
                return BEYOND;
            }
            for (int i = 0; i < 8; i++) {
                boolean isYes = (yes & (1 << i)) != 0;
                boolean isNo = (no & (1 << i)) != 0;
                if (isYes && isNo) {
                    return BEYOND;
                }
                s.marks[i] = isYes ? Boolean.TRUE : isNo ? Boolean.FALSE : null;
            }
        }
        if (all.sounds.size() >= 8) {
            return FULL;
        }
        all.sounds.add(s);
        return all.sounds.size() - 1;
    }

    private int mark(int sound, int mark) {
        if (noSound(sound)) {
            return BEYOND;
        }
        if (all.sounds.get(sound).missing) {
            return MISSING;
        }
        if (mark < 0 || mark > 7) {
            return BEYOND;
        }
        Boolean b = all.sounds.get(sound).marks[mark];
        return b == null ? 2 : b ? 1 : 0;
    }

    private boolean isOf(int sound, int kind) {
        Set<Integer> kinds = new HashSet<>(Arrays.asList(0, all.sounds.get(sound).kind));
        if (kinds.contains(2)) {
            kinds.add(1);
        }
        if (kinds.contains(4)) {
            kinds.add(3);
        }
        return kinds.contains(kind);
    }

    private int as(int sound, int kind) {
        if (noSound(sound) || kind < 0 || kind > 4) {
            return BEYOND;
        }
        return isOf(sound, kind) ? sound : KIND;
    }

    private int law(int kind) {
        if (kind < 0 || kind > 3) {
            return BEYOND;
        }
        if (all.laws.size() >= 16) {
            return FULL;
        }
        Law law = new Law();
        law.kind = kind;
        all.laws.add(law);
        return all.laws.size() - 1;
    }

    private int set(int law, int which, int kind, int yes, int no) {
        if (noLaw(law) || which < 0 || which > 2) {
            return BEYOND;
        }
        if (kind < (which == 0 ? 0 : -2) || kind > 4) {
            return BEYOND;
        }
        int top = kind < 0 ? 0 : 255;
        if (yes < 0 || yes > top || no < 0 || no > top) {
            return BEYOND;
        }
        all.laws.get(law).sets[which] = new SetOf(kind, yes, no);
        return 0;
    }

    private int becomes(int law, int how, int sound) {
        if (noLaw(law) || how < 0 || how > 2 || (how != 1 && noSound(sound))) {
            return BEYOND;
        }
        all.laws.get(law).how = how;
        all.laws.get(law).sound = sound;
        return 0;
    }

    private int tongue(int parent) {
        if (parent != -1 && noTongue(parent)) {
            return BEYOND;
        }
        if (all.tongues.size() >= 6) {
            return FULL;
        }
        Tongue t = new Tongue();
        t.parent = parent;
        all.tongues.add(t);
        return all.tongues.size() - 1;
    }

    private int give(int tongue, int law) {
        if (noTongue(tongue) || noLaw(law)) {
            return BEYOND;
        }
        List<Integer> own = all.tongues.get(tongue).own;
        if (own.size() >= 6) {
            return FULL;
        }
        own.add(law);
        return own.size();
    }

    private boolean noPair(int tongue, int k) {
        return noTongue(tongue) || k < 0 || (long) k + 1 >= all.tongues.get(tongue).own.size();
    }

    private int swap(int tongue, int k) {
        if (noPair(tongue, k)) {
            return BEYOND;
        }
        java.util.Collections.swap(all.tongues.get(tongue).own, k, k + 1);
        return 0;
    }

    private List<Integer> rowOf(int tongue) {
        List<Integer> row = new ArrayList<>();
        if (tongue >= 0) {
            row.addAll(rowOf(all.tongues.get(tongue).parent));
            row.addAll(all.tongues.get(tongue).own);
        }
        return row;
    }

    private int lawAt(int tongue, int k) {
        if (noTongue(tongue)) {
            return BEYOND;
        }
        List<Integer> row = rowOf(tongue);
        return k < 0 || k >= row.size() ? NONE : row.get(k);
    }

    private int say(int sound) {
        if (noSound(sound)) {
            return BEYOND;
        }
        if (all.word.size() >= 8) {
            return FULL;
        }
        all.word.add(sound);
        return all.word.size();
    }

    private int hush() {
        int had = all.word.size();
        all.word.clear();
        return had;
    }

    private int result(int i) {
        if (i == -1) {
            return all.result.size();
        }
        return i < 0 || i >= all.result.size() ? NONE : all.result.get(i);
    }

    private int show(List<Integer> word) {
        all.result = new ArrayList<>(word);
        return word.size();
    }

    private boolean fits(SetOf set, Cell cell) {
        if (set.kind == -2) {
            return true;
        }
        if (set.kind == -1) {
            return cell == null;
        }
        if (cell == null || !isOf(cell.sound, set.kind)) {
            return false;
        }
        Boolean[] marks = all.sounds.get(cell.sound).marks;
        for (int i = 0; i < 8; i++) {
            boolean mustYes = (set.yes & (1 << i)) != 0;
            boolean mustNo = (set.no & (1 << i)) != 0;
            if (mustYes && !Boolean.TRUE.equals(marks[i]) || mustNo && !Boolean.FALSE.equals(marks[i])) {
                return false;
            }
        }
        return true;
    }

    private boolean fitsAt(Law law, List<Cell> cells, Cell cell) {
        int i = cells.indexOf(cell);
        Cell left = i > 0 ? cells.get(i - 1) : null;
        Cell right = i + 1 < cells.size() ? cells.get(i + 1) : null;
        return fits(law.sets[0], cell) && fits(law.sets[1], left) && fits(law.sets[2], right);
    }

    private void change(Law law, List<Cell> cells, Cell cell) {
        int i = cells.indexOf(cell);
        if (law.how == 0) {
            cells.set(i, new Cell(law.sound));
        } else if (law.how == 1) {
            cells.remove(i);
        } else {
            cells.add(i + 1, new Cell(law.sound));
        }
    }

    /** What a law makes of a word; null: more than 16 sounds. */
    private List<Integer> apply(int number, List<Integer> word, int[] places) {
        Law law = all.laws.get(number);
        List<Cell> cells = new ArrayList<>();
        for (int sound : word) {
            cells.add(new Cell(sound));
        }
        List<Cell> asked = new ArrayList<>(cells);
        if (law.kind == 1) {
            java.util.Collections.reverse(asked);
        }
        places[0] = 0;
        if (law.kind == 0 || law.kind == 3) {
            List<Cell> fitting = new ArrayList<>();
            for (Cell cell : asked) {
                if (fitsAt(law, cells, cell)) {
                    fitting.add(cell);
                }
            }
            for (Cell cell : fitting) {
                if (law.kind == 0 || places[0] == 0) {
                    change(law, cells, cell);
                    places[0]++;
                }
            }
        } else {
            for (Cell cell : asked) {
                if (fitsAt(law, cells, cell)) {
                    change(law, cells, cell);
                    places[0]++;
                }
            }
        }
        if (cells.size() > 16) {
            return null;
        }
        List<Integer> out = new ArrayList<>();
        for (Cell cell : cells) {
            out.add(cell.sound);
        }
        return out;
    }

    private List<Integer> lead(List<Integer> row, List<Integer> word) {
        List<Integer> at = word;
        for (int law : row) {
            at = apply(law, at, new int[1]);
            if (at == null) {
                return null;
            }
        }
        return at;
    }

    private int led(int tongue) {
        if (noTongue(tongue)) {
            return BEYOND;
        }
        List<Step> steps = new ArrayList<>();
        List<Integer> at = new ArrayList<>(all.word);
        for (int law : rowOf(tongue)) {
            int[] places = new int[1];
            at = apply(law, at, places);
            if (at == null) {
                return LONG;
            }
            Step step = new Step();
            step.word = at;
            step.places = places[0];
            steps.add(step);
        }
        all.latest = steps;
        return show(at);
    }

    private int step(int k) {
        return k < 0 || k >= all.latest.size() ? NONE : show(all.latest.get(k).word);
    }

    private List<List<Integer>> someWords(int most) {
        List<List<Integer>> words = new ArrayList<>();
        List<List<Integer>> longest = new ArrayList<>();
        longest.add(new ArrayList<>());
        words.addAll(longest);
        for (int size = 1; size <= most; size++) {
            List<List<Integer>> longer = new ArrayList<>();
            for (List<Integer> word : longest) {
                for (int sound = 0; sound < all.sounds.size(); sound++) {
                    List<Integer> next = new ArrayList<>(word);
                    next.add(sound);
                    longer.add(next);
                }
            }
            words.addAll(longer);
            longest = longer;
        }
        return words;
    }

    private int back(int tongue, int most) {
        if (noTongue(tongue) || most < 0 || most > 4) {
            return BEYOND;
        }
        List<List<Integer>> hits = new ArrayList<>();
        for (List<Integer> word : someWords(most)) {
            if (all.word.equals(lead(rowOf(tongue), word))) {
                hits.add(word);
            }
        }
        return showFirst(hits);
    }

    private int showFirst(List<List<Integer>> hits) {
        if (!hits.isEmpty()) {
            show(hits.get(0));
        }
        return hits.size();
    }

    private int differ(int tongue, int other, int most) {
        if (noTongue(tongue) || noTongue(other) || most < 0 || most > 4) {
            return BEYOND;
        }
        for (List<Integer> word : someWords(most)) {
            if (!java.util.Objects.equals(lead(rowOf(tongue), word), lead(rowOf(other), word))) {
                return show(word);
            }
        }
        return NONE;
    }

    private int loses(int tongue, int most) {
        if (noTongue(tongue) || most < 0 || most > 4) {
            return BEYOND;
        }
        Set<List<Integer>> goals = new HashSet<>();
        List<List<Integer>> hits = new ArrayList<>();
        for (List<Integer> word : someWords(most)) {
            List<Integer> goal = lead(rowOf(tongue), word);
            if (goal != null && !goals.add(goal)) {
                hits.add(word);
            }
        }
        return showFirst(hits);
    }

    private int stand(int tongue, int k, int most) {
        if (noPair(tongue, k) || most < 0 || most > 4) {
            return BEYOND;
        }
        int a = all.tongues.get(tongue).own.get(k);
        int b = all.tongues.get(tongue).own.get(k + 1);
        boolean idle = true;
        boolean more = false;
        boolean fewer = false;
        for (List<Integer> word : someWords(most)) {
            idle &= java.util.Objects.equals(lead(Arrays.asList(a, b), word), lead(Arrays.asList(b, a), word));
            List<Integer> behindA = apply(a, word, new int[1]);
            if (behindA != null) {
                int[] behind = new int[1];
                int[] itself = new int[1];
                apply(b, behindA, behind);
                apply(b, word, itself);
                more |= behind[0] > itself[0];
                fewer |= behind[0] < itself[0];
            }
        }
        return idle ? 0 : 4 + (more ? 1 : 0) + (fewer ? 2 : 0);
    }

    private int meaning() {
        if (all.meanings.size() >= 8) {
            return FULL;
        }
        List<List<Integer>> forms = new ArrayList<>();
        for (int i = 0; i < 6; i++) {
            forms.add(null);
        }
        all.meanings.add(forms);
        return all.meanings.size() - 1;
    }

    private int forms(int meaning) {
        int n = 0;
        for (List<Integer> form : all.meanings.get(meaning)) {
            n += form == null ? 0 : 1;
        }
        return n;
    }

    private int form(int meaning, int tongue) {
        if (noMeaning(meaning) || noTongue(tongue)) {
            return BEYOND;
        }
        all.meanings.get(meaning).set(tongue, new ArrayList<>(all.word));
        return forms(meaning);
    }

    private int agreeing(int meaning, List<Integer> word) {
        int n = 0;
        for (int tongue = 0; tongue < all.tongues.size(); tongue++) {
            List<Integer> form = all.meanings.get(meaning).get(tongue);
            if (form != null && form.equals(lead(rowOf(tongue), word))) {
                n++;
            }
        }
        return n;
    }

    private List<List<Integer>> rootsOf(int meaning, int most) {
        List<List<Integer>> hits = new ArrayList<>();
        int forms = forms(meaning);
        if (forms > 0) {
            for (List<Integer> word : someWords(most)) {
                if (agreeing(meaning, word) == forms) {
                    hits.add(word);
                }
            }
        }
        return hits;
    }

    private int roots(int meaning, int most) {
        if (noMeaning(meaning) || most < 0 || most > 4) {
            return BEYOND;
        }
        return showFirst(rootsOf(meaning, most));
    }

    private int some(int meaning, int most) {
        if (noMeaning(meaning) || most < 0 || most > 4) {
            return BEYOND;
        }
        if (forms(meaning) == 0) {
            return NONE;
        }
        int best = 0;
        for (List<Integer> word : someWords(most)) {
            best = Math.max(best, agreeing(meaning, word));
        }
        for (List<Integer> word : someWords(most)) {
            if (agreeing(meaning, word) == best) {
                show(word);
                break;
            }
        }
        return best;
    }

    private int explained(int most) {
        int n = 0;
        for (int meaning = 0; meaning < all.meanings.size(); meaning++) {
            n += rootsOf(meaning, most).isEmpty() ? 0 : 1;
        }
        return n;
    }

    private static void orders(List<Integer> left, List<Integer> head, List<List<Integer>> into) {
        if (left.isEmpty()) {
            into.add(head);
        }
        for (int i = 0; i < left.size(); i++) {
            List<Integer> rest = new ArrayList<>(left);
            List<Integer> longer = new ArrayList<>(head);
            longer.add(rest.remove(i));
            orders(rest, longer, into);
        }
    }

    private int order(int tongue, int most) {
        if (noTongue(tongue) || most < 0 || most > 3) {
            return BEYOND;
        }
        Tongue t = all.tongues.get(tongue);
        if (t.own.size() > 4) {
            return LONG;
        }
        List<List<Integer>> orders = new ArrayList<>();
        orders(t.own, new ArrayList<>(), orders);
        int best = -1;
        List<Integer> bestOrder = null;
        for (List<Integer> order : orders) {
            t.own = order;
            int n = explained(most);
            if (n > best) {
                best = n;
                bestOrder = order;
            }
        }
        t.own = bestOrder;
        return best;
    }

    private int few(int tongue, int most) {
        if (noTongue(tongue) || most < 0 || most > 3) {
            return BEYOND;
        }
        Tongue t = all.tongues.get(tongue);
        if (t.own.size() > 4) {
            return LONG;
        }
        List<Integer> was = t.own;
        int due = explained(most);
        for (int count = 0; count <= was.size(); count++) {
            for (int set = 0; set < 1 << was.size(); set++) {
                if (Integer.bitCount(set) != count) {
                    continue;
                }
                t.own = new ArrayList<>();
                for (int k = 0; k < was.size(); k++) {
                    if ((set & (1 << k)) != 0) {
                        t.own.add(was.get(k));
                    }
                }
                int n = explained(most);
                t.own = was;
                if (n >= due) {
                    return set;
                }
            }
        }
        throw new IllegalStateException("all laws together explain no less than all of them");
    }

    private int cost(int gap) {
        if (gap < 0 || gap > 99) {
            return BEYOND;
        }
        int was = all.gap;
        all.gap = gap;
        return was;
    }

    private int pairCost(int one, int two) {
        if (one == two) {
            return 0;
        }
        int cost = 1;
        for (int i = 0; i < 8; i++) {
            Boolean a = all.sounds.get(one).marks[i];
            Boolean b = all.sounds.get(two).marks[i];
            cost += a != null && b != null && !a.equals(b) ? 1 : 0;
        }
        return cost;
    }

    private int matchCost(List<Integer> one, List<Integer> two) {
        int[][] least = new int[one.size() + 1][two.size() + 1];
        for (int i = 0; i <= one.size(); i++) {
            for (int j = 0; j <= two.size(); j++) {
                int best = i == 0 && j == 0 ? 0 : Integer.MAX_VALUE;
                if (i > 0) {
                    best = Math.min(best, least[i - 1][j] + all.gap);
                }
                if (j > 0) {
                    best = Math.min(best, least[i][j - 1] + all.gap);
                }
                if (i > 0 && j > 0) {
                    best = Math.min(best, least[i - 1][j - 1] + pairCost(one.get(i - 1), two.get(j - 1)));
                }
                least[i][j] = best;
            }
        }
        return least[one.size()][two.size()];
    }

    private int match(int meaning, int tongue, int other) {
        if (noMeaning(meaning) || noTongue(tongue) || noTongue(other)) {
            return BEYOND;
        }
        List<Integer> one = all.meanings.get(meaning).get(tongue);
        List<Integer> two = all.meanings.get(meaning).get(other);
        return one == null || two == null ? NONE : matchCost(one, two);
    }

    private int put(int v) {
        if (waiting.size() >= 300) {
            return FULL;
        }
        waiting.add(v);
        return waiting.size();
    }

    private int check(int tongue) {
        List<Integer> numbers = new ArrayList<>(waiting);
        waiting.clear();
        if (noTongue(tongue)) {
            return BEYOND;
        }
        if (lead(rowOf(tongue), all.word) == null) {
            return LONG;
        }
        List<Integer> at = all.word;
        int k = 0;
        for (int law : rowOf(tongue)) {
            at = apply(law, at, new int[1]);
            List<Integer> due = new ArrayList<>();
            due.add(at.size());
            due.addAll(at);
            if (numbers.size() < due.size() || !numbers.subList(0, due.size()).equals(due)) {
                return k + 1;
            }
            numbers = numbers.subList(due.size(), numbers.size());
            k++;
        }
        return numbers.isEmpty() ? 0 : k + 1;
    }

    private int again() {
        if (kept == null) {
            return NONE;
        }
        all = kept.copy();
        return 1;
    }

    private int told(int what) {
        int[] counts = {
            all.sounds.size(), all.laws.size(), all.tongues.size(), all.meanings.size(),
            all.word.size(), all.latest.size(), waiting.size(), findings
        };
        return what < 0 || what > 7 ? BEYOND : counts[what];
    }
}
