import java.util.ArrayList;
import java.util.List;
import java.util.TreeSet;

/**
 * The document once more, word by word and with no eye to speed, to be held against
 * LearnedReasons: sets of LITERALS, every THING asked again after each step, every assignment
 * tried. Nothing is kept from one call to the next but NAMES, THINGS, LEMMAS and ASSUMED.
 */
final class PlainReasons {
    private static final class Thing {
        boolean isRow;
        boolean dropped;
        TreeSet<Integer> literals = new TreeSet<>();
        int bound;
        int[] weights = new int[14];
    }

    /** What THE SEARCH came to. */
    private static final class Found {
        TreeSet<Integer> model;
        int conflicts;
        int choices;
        List<TreeSet<Integer>> learned = new ArrayList<>();
    }

    private int names;
    private int[] costs = new int[14];
    private List<Thing> things = new ArrayList<>();
    private TreeSet<Integer> hand = new TreeSet<>();
    private List<TreeSet<Integer>> lemmas = new ArrayList<>();
    private TreeSet<Integer> assumed = new TreeSet<>();

    private boolean isName(long n) {
        return n >= 0 && n < names;
    }

    private boolean isThing(int t) {
        return t >= 0 && t < things.size() && !things.get(t).dropped;
    }

    int name() {
        if (names == 14) return -4;
        lemmas.clear();
        return names++;
    }

    int literal(int l) {
        if (l < 0 || !isName(l / 2)) return -1;
        if (hand.size() == 8 && !hand.contains(l)) return -4;
        hand.add(l);
        return hand.size();
    }

    int clause() {
        if (things.size() == 60) return -4;
        Thing thing = new Thing();
        thing.literals = hand;
        hand = new TreeSet<>();
        things.add(thing);
        lemmas.clear();
        return things.size() - 1;
    }

    int row(int bound) {
        if (bound < -200 || bound > 200) return -2;
        if (things.size() == 60) return -4;
        Thing thing = new Thing();
        thing.isRow = true;
        thing.bound = bound;
        things.add(thing);
        lemmas.clear();
        return things.size() - 1;
    }

    int weight(int row, int name, int w) {
        if (!isThing(row) || !things.get(row).isRow || !isName(name)) return -1;
        if (w < -20 || w > 20) return -2;
        things.get(row).weights[name] = w;
        lemmas.clear();
        return 1;
    }

    int drop(int thing) {
        if (!isThing(thing)) return -1;
        things.get(thing).dropped = true;
        lemmas.clear();
        return standing().size();
    }

    int cost(int name, int v) {
        if (!isName(name)) return -1;
        if (v < -50 || v > 50) return -2;
        costs[name] = v;
        return 1;
    }

    int clear() {
        int were = names;
        names = 0;
        costs = new int[14];
        things.clear();
        hand.clear();
        lemmas.clear();
        assumed.clear();
        return were;
    }

    int assume(int l) {
        if (l < 0 || !isName(l / 2)) return -1;
        assumed.add(l);
        return assumed.size();
    }

    int forget() {
        int were = assumed.size();
        assumed.clear();
        return were;
    }

    int conflict() {
        return atOnce(assumed, List.of()) == null ? 1 : 0;
    }

    int known(int name) {
        if (!isName(name)) return -1;
        TreeSet<Integer> known = atOnce(assumed, List.of());
        if (known == null) return -2;
        if (known.contains(2 * name)) return 1;
        return known.contains(2 * name + 1) ? 0 : 2;
    }

    int lemma() {
        if (lemmas.size() == 40) return -4;
        TreeSet<Integer> clause = hand;
        hand = new TreeSet<>();
        TreeSet<Integer> opposites = new TreeSet<>();
        for (int l : clause) opposites.add(l ^ 1);
        if (atOnce(opposites, lemmas) != null) return 0;
        lemmas.add(clause);
        return 1;
    }

    int lemmas() {
        return lemmas.size();
    }

    int search() {
        return theSearch().model == null ? 0 : 1;
    }

    int value(int name) {
        if (!isName(name)) return -1;
        for (boolean[] model : models()) return model[name] ? 1 : 0;
        return -3;
    }

    /** Like value, but from THE SEARCH, whose MODEL is said to be the FIRST one. */
    int searchedValue(int name) {
        if (!isName(name)) return -1;
        Found found = theSearch();
        if (found.model == null) return -3;
        return found.model.contains(2 * name) ? 1 : 0;
    }

    int told(int what) {
        if (what < 0 || what > 2) return -2;
        Found found = theSearch();
        return what == 0 ? found.conflicts : what == 1 ? found.choices : found.learned.size();
    }

    int learned(int k, int i) {
        Found found = theSearch();
        if (k < 0 || k >= found.learned.size()) return -1;
        List<Integer> literals = new ArrayList<>(found.learned.get(k));
        return i < 0 || i >= literals.size() ? -1 : literals.get(i);
    }

    int count() {
        return models().size();
    }

    int fixed(int name) {
        if (!isName(name)) return -1;
        int trueIn = 0;
        int all = 0;
        for (boolean[] model : models()) {
            all++;
            if (model[name]) trueIn++;
        }
        return all == 0 ? -3 : trueIn == all ? 1 : trueIn == 0 ? 0 : 2;
    }

    int best() {
        boolean[] best = firstBest();
        return best == null ? -3 : costOf(best);
    }

    int bestValue(int name) {
        if (!isName(name)) return -1;
        boolean[] best = firstBest();
        return best == null ? -3 : best[name] ? 1 : 0;
    }

    int core(int k) {
        if (hasModel(standing())) return -2;
        List<Integer> core = standing();
        for (int t = things.size() - 1; t >= 0; t--) {
            List<Integer> without = new ArrayList<>(core);
            if (without.remove((Integer) t) && !hasModel(without)) core = without;
        }
        return k < 0 || k >= core.size() ? -1 : core.get(k);
    }

    private List<Integer> standing() {
        List<Integer> all = new ArrayList<>();
        for (int t = 0; t < things.size(); t++) if (isThing(t)) all.add(t);
        return all;
    }

    /** What is KNOWN, by one small step at a time, or null if there is a CONFLICT. */
    private TreeSet<Integer> atOnce(TreeSet<Integer> taken, List<TreeSet<Integer>> more) {
        TreeSet<Integer> known = new TreeSet<>(taken);
        while (true) {
            for (int l : known) if (known.contains(l ^ 1)) return null;
            TreeSet<Integer> next = new TreeSet<>(known);
            for (int t : standing()) {
                Thing thing = things.get(t);
                if (thing.isRow) {
                    if (!stepRow(thing, known, next)) return null;
                } else if (!stepClause(thing.literals, known, next)) {
                    return null;
                }
            }
            for (TreeSet<Integer> clause : more) if (!stepClause(clause, known, next)) return null;
            if (next.equals(known)) return known;
            known = next;
        }
    }

    private static boolean stepClause(TreeSet<Integer> c, TreeSet<Integer> known, TreeSet<Integer> next) {
        boolean kept = false;
        for (int l : c) if (!known.contains(l ^ 1)) kept = true;
        for (int l : c) {
            boolean others = true;
            for (int o : c) if (o != l && !known.contains(o ^ 1)) others = false;
            if (others) next.add(l);
        }
        return kept;
    }

    private boolean stepRow(Thing row, TreeSet<Integer> known, TreeSet<Integer> next) {
        int m = 0;
        for (int n = 0; n < names; n++) {
            boolean isKnown = known.contains(2 * n) || known.contains(2 * n + 1);
            if (known.contains(2 * n) || !isKnown && row.weights[n] < 0) m += row.weights[n];
        }
        for (int n = 0; n < names; n++) {
            int w = row.weights[n];
            if (known.contains(2 * n) || known.contains(2 * n + 1)) continue;
            if (w > 0 && m + w > row.bound) next.add(2 * n + 1);
            if (w < 0 && m - w > row.bound) next.add(2 * n);
        }
        return m <= row.bound;
    }

    private Found theSearch() {
        Found found = new Found();
        List<Integer> choices = new ArrayList<>();
        while (true) {
            TreeSet<Integer> known = atOnce(new TreeSet<>(choices), found.learned);
            if (known == null) {
                found.conflicts++;
                if (choices.isEmpty()) return found;
                List<Integer> reason = reasonOf(choices, found.learned);
                TreeSet<Integer> clause = new TreeSet<>();
                for (int l : reason) clause.add(l ^ 1);
                found.learned.add(clause);
                int stay = reason.size() < 2 ? 0 : choices.indexOf(reason.get(reason.size() - 2)) + 1;
                while (choices.size() > stay) choices.remove(choices.size() - 1);
            } else if (known.size() == names) {
                found.model = known;
                return found;
            } else {
                int n = 0;
                while (known.contains(2 * n) || known.contains(2 * n + 1)) n++;
                choices.add(2 * n + 1);
                found.choices++;
            }
        }
    }

    private List<Integer> reasonOf(List<Integer> choices, List<TreeSet<Integer>> learned) {
        List<Integer> reason = new ArrayList<>(choices);
        for (int i = reason.size() - 1; i >= 0; i--) {
            List<Integer> without = new ArrayList<>(reason);
            without.remove(i);
            if (atOnce(new TreeSet<>(without), learned) == null) reason = without;
        }
        return reason;
    }

    /** All MODELS, the FIRST one first. */
    private List<boolean[]> models() {
        List<boolean[]> all = new ArrayList<>();
        List<Integer> standing = standing();
        for (int i = 0; i < 1 << names; i++) {
            boolean[] truths = truths(i);
            if (keeps(truths, standing)) all.add(truths);
        }
        return all;
    }

    private boolean hasModel(List<Integer> some) {
        for (int i = 0; i < 1 << names; i++) if (keeps(truths(i), some)) return true;
        return false;
    }

    /** NAME 0 weighs most, so that greater numbers come later in the order of the document. */
    private boolean[] truths(int i) {
        boolean[] truths = new boolean[names];
        for (int n = 0; n < names; n++) truths[n] = (i >> (names - 1 - n) & 1) == 1;
        return truths;
    }

    private boolean keeps(boolean[] truths, List<Integer> some) {
        for (int t : some) {
            Thing thing = things.get(t);
            int sum = 0;
            boolean so = false;
            for (int n = 0; n < names; n++) if (truths[n]) sum += thing.weights[n];
            for (int l : thing.literals) if (truths[l / 2] == (l % 2 == 0)) so = true;
            if (thing.isRow ? sum > thing.bound : !so) return false;
        }
        return true;
    }

    private int costOf(boolean[] truths) {
        int sum = 0;
        for (int n = 0; n < names; n++) if (truths[n]) sum += costs[n];
        return sum;
    }

    private boolean[] firstBest() {
        boolean[] best = null;
        for (boolean[] model : models()) if (best == null || costOf(model) < costOf(best)) best = model;
        return best;
    }
}
