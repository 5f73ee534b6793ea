import java.util.Arrays;

/**
 * Truths under CLAUSES and ROWS: what follows AT ONCE, a search that learns from each CONFLICT,
 * and what all MODELS have in common. The words in capitals are those of the document.
 *
 * <p>A set of NAMES is held as an int: bit n stands for NAME n. A set of THINGS is held as a long.
 * A CLAUSE is held as two sets: the NAMES that it wants true and those that it wants false.
 */
public final class LearnedReasons {
    private static final int NAMES_MAX = 14;
    private static final int THINGS_MAX = 60;
    private static final int LITERALS_MAX = 8;
    private static final int LEMMAS_MAX = 40;
    private static final int WEIGHT_MAX = 20;
    private static final int BOUND_MAX = 200;
    private static final int COST_MAX = 50;

    private static final int NO_SUCH = -1;
    private static final int OUTSIDE = -2;
    private static final int NO_MODEL = -3;
    private static final int NO_ROOM = -4;

    private static final int NEITHER = 2;

    private final Things things;
    private final Lemmas heldLemmas;
    private final AtOnce atOnce;
    private final Search theSearch;
    private final Models models;

    private int handTrue;
    private int handFalse;
    private int assumedTrue;
    private int assumedFalse;

    public LearnedReasons() {
        things = new Things();
        heldLemmas = new Lemmas();
        Learned learnedClauses = new Learned();
        atOnce = new AtOnce(things, heldLemmas, learnedClauses);
        theSearch = new Search(things, atOnce, learnedClauses);
        models = new Models(things);
    }

    public int name() {
        if (things.names() >= NAMES_MAX) {
            return NO_ROOM;
        }
        outdate();
        return things.addName();
    }

    public int literal(int l) {
        if (!isLiteral(l)) {
            return NO_SUCH;
        }
        int wantTrue = handTrue | nameWantedTrue(l);
        int wantFalse = handFalse | nameWantedFalse(l);
        // A LITERAL that comes again takes no room, so what counts is how many there would be.
        int size = literalsIn(wantTrue, wantFalse);
        if (size > LITERALS_MAX) {
            return NO_ROOM;
        }
        handTrue = wantTrue;
        handFalse = wantFalse;
        return size;
    }

    public int clause() {
        if (things.isFull()) {
            return NO_ROOM;
        }
        int number = things.addClause(handTrue, handFalse);
        emptyHand();
        outdate();
        return number;
    }

    public int row(int bound) {
        if (isOutside(bound, BOUND_MAX)) {
            return OUTSIDE;
        }
        if (things.isFull()) {
            return NO_ROOM;
        }
        outdate();
        return things.addRow(bound);
    }

    public int weight(int row, int name, int w) {
        if (!things.isRow(row) || !things.isName(name)) {
            return NO_SUCH;
        }
        if (isOutside(w, WEIGHT_MAX)) {
            return OUTSIDE;
        }
        outdate();
        things.setWeight(row, name, w);
        return 1;
    }

    public int drop(int thing) {
        if (!things.stands(thing)) {
            return NO_SUCH;
        }
        outdate();
        things.remove(thing);
        return things.howMany();
    }

    public int cost(int name, int v) {
        if (!things.isName(name)) {
            return NO_SUCH;
        }
        if (isOutside(v, COST_MAX)) {
            return OUTSIDE;
        }
        models.setCost(name, v);
        return 1;
    }

    public int clear() {
        int names = things.names();
        things.removeAll();
        models.removeCosts();
        emptyHand();
        assumeNone();
        outdate();
        return names;
    }

    public int assume(int l) {
        if (!isLiteral(l)) {
            return NO_SUCH;
        }
        assumedTrue |= nameWantedTrue(l);
        assumedFalse |= nameWantedFalse(l);
        return literalsIn(assumedTrue, assumedFalse);
    }

    public int forget() {
        int were = literalsIn(assumedTrue, assumedFalse);
        assumeNone();
        return were;
    }

    public int conflict() {
        return clashFromAssumed() ? 1 : 0;
    }

    public int known(int name) {
        if (!things.isName(name)) {
            return NO_SUCH;
        }
        if (clashFromAssumed()) {
            return OUTSIDE;
        }
        return truthOf(name, atOnce.trueNames(), atOnce.falseNames());
    }

    public int lemma() {
        if (heldLemmas.howMany() >= LEMMAS_MAX) {
            return NO_ROOM;
        }
        int wantTrue = handTrue;
        int wantFalse = handFalse;
        emptyHand();
        if (!atOnce.clashes(wantFalse, wantTrue, AtOnce.WITH_LEMMAS)) {
            return 0;
        }
        heldLemmas.add(wantTrue, wantFalse);
        return 1;
    }

    public int lemmas() {
        return heldLemmas.howMany();
    }

    public int search() {
        theSearch.run();
        return theSearch.hasModel() ? 1 : 0;
    }

    public int value(int name) {
        if (!things.isName(name)) {
            return NO_SUCH;
        }
        theSearch.run();
        if (!theSearch.hasModel()) {
            return NO_MODEL;
        }
        return theSearch.firstModel() >> name & 1;
    }

    public int told(int what) {
        theSearch.run();
        switch (what) {
            case 0:
                return theSearch.conflicts();
            case 1:
                return theSearch.choicesMade();
            case 2:
                return theSearch.learnedClauses();
            default:
                return OUTSIDE;
        }
    }

    public int learned(int k, int i) {
        theSearch.run();
        if (k < 0 || k >= theSearch.learnedClauses()) {
            return NO_SUCH;
        }
        int name = placeOfBit(theSearch.learnedClause(k), i);
        return name < 0 ? NO_SUCH : 2 * name;
    }

    public int count() {
        return models.modelCount();
    }

    public int fixed(int name) {
        if (!things.isName(name)) {
            return NO_SUCH;
        }
        if (models.modelCount() == 0) {
            return NO_MODEL;
        }
        return truthOf(name, models.trueInAll(), models.falseInAll());
    }

    public int best() {
        return models.modelCount() == 0 ? NO_MODEL : models.leastCost();
    }

    public int bestValue(int name) {
        if (!things.isName(name)) {
            return NO_SUCH;
        }
        if (models.modelCount() == 0) {
            return NO_MODEL;
        }
        return models.firstBest() >> name & 1;
    }

    public int core(int k) {
        if (models.modelCount() != 0) {
            return OUTSIDE;
        }
        int thing = placeOfBit(models.coreThings(), k);
        return thing < 0 ? NO_SUCH : thing;
    }

    /** What was worked out before a change of NAMES or THINGS is of no more use, LEMMAS too. */
    private void outdate() {
        heldLemmas.removeAll();
        theSearch.outdate();
        models.outdate();
    }

    private boolean clashFromAssumed() {
        return atOnce.clashes(assumedTrue, assumedFalse, AtOnce.BY_THINGS);
    }

    private void assumeNone() {
        assumedTrue = 0;
        assumedFalse = 0;
    }

    private void emptyHand() {
        handTrue = 0;
        handFalse = 0;
    }

    private boolean isLiteral(int l) {
        return l >= 0 && things.isName(l >> 1);
    }

    private static int nameWantedTrue(int l) {
        return (l & 1) == 0 ? 1 << (l >> 1) : 0;
    }

    private static int nameWantedFalse(int l) {
        return (l & 1) == 1 ? 1 << (l >> 1) : 0;
    }

    private static int literalsIn(int wantTrue, int wantFalse) {
        return Integer.bitCount(wantTrue) + Integer.bitCount(wantFalse);
    }

    private static boolean isOutside(int v, int most) {
        return v < -most || v > most;
    }

    private static int truthOf(int name, int trueNames, int falseNames) {
        if ((trueNames >> name & 1) == 1) {
            return 1;
        }
        return (falseNames >> name & 1) == 1 ? 0 : NEITHER;
    }

    /** The place of the bit of the set before which there are k others, or -1. */
    private static int placeOfBit(long set, int k) {
        int before = 0;
        for (int place = 0; place < THINGS_MAX; place++) {
            if ((set >> place & 1L) == 1L) {
                if (before == k) {
                    return place;
                }
                before++;
            }
        }
        return -1;
    }

    /** The NAMES, counted, and the THINGS. */
    private static final class Things {
        private int names;
        private int numbersGiven;
        private long standing;
        private long rows;
        /** THINGS that came or changed since this set was last emptied. */
        private long unread;
        private final int[] wantTrue = new int[THINGS_MAX];
        private final int[] wantFalse = new int[THINGS_MAX];
        private final int[] bounds = new int[THINGS_MAX];
        private final int[] weights = new int[THINGS_MAX * NAMES_MAX];

        int names() {
            return names;
        }

        int allNames() {
            return (1 << names) - 1;
        }

        boolean isName(int number) {
            return number >= 0 && number < names;
        }

        int addName() {
            int number = names;
            names++;
            unread = standing;
            return number;
        }

        boolean isFull() {
            return numbersGiven >= THINGS_MAX;
        }

        int numbersGiven() {
            return numbersGiven;
        }

        boolean stands(int number) {
            return number >= 0 && number < numbersGiven && (standing >> number & 1L) == 1L;
        }

        boolean isRow(int number) {
            return stands(number) && (rows >> number & 1L) == 1L;
        }

        int howMany() {
            return Long.bitCount(standing);
        }

        long standing() {
            return standing;
        }

        int addClause(int wantedTrue, int wantedFalse) {
            int number = numbersGiven;
            wantTrue[number] = wantedTrue;
            wantFalse[number] = wantedFalse;
            place(number);
            return number;
        }

        int addRow(int bound) {
            int number = numbersGiven;
            bounds[number] = bound;
            for (int n = 0; n < NAMES_MAX; n++) {
                weights[number * NAMES_MAX + n] = 0;
            }
            rows |= 1L << number;
            place(number);
            return number;
        }

        private void place(int number) {
            numbersGiven++;
            standing |= 1L << number;
            unread |= 1L << number;
        }

        void setWeight(int row, int name, int w) {
            weights[row * NAMES_MAX + name] = w;
            unread |= 1L << row;
        }

        void remove(int number) {
            standing &= ~(1L << number);
        }

        void removeAll() {
            names = 0;
            numbersGiven = 0;
            standing = 0L;
            rows = 0L;
            unread = 0L;
        }

        int wantedTrue(int clause) {
            return wantTrue[clause];
        }

        int wantedFalse(int clause) {
            return wantFalse[clause];
        }

        int boundOf(int row) {
            return bounds[row];
        }

        int weightOf(int row, int name) {
            return weights[row * NAMES_MAX + name];
        }

        boolean isUnread(int number) {
            return stands(number) && (unread >> number & 1L) == 1L;
        }

        void allRead() {
            unread = 0L;
        }
    }

    /** The LEMMAS that are kept. */
    private static final class Lemmas {
        private int size;
        private final int[] wantTrue = new int[LEMMAS_MAX];
        private final int[] wantFalse = new int[LEMMAS_MAX];

        int howMany() {
            return size;
        }

        void add(int wantedTrue, int wantedFalse) {
            if (size < LEMMAS_MAX) {
                wantTrue[size] = wantedTrue;
                wantFalse[size] = wantedFalse;
                size++;
            }
        }

        void removeAll() {
            size = 0;
        }

        int wantedTrue(int k) {
            return wantTrue[k];
        }

        int wantedFalse(int k) {
            return wantFalse[k];
        }
    }

    /**
     * The LEARNED CLAUSES. Each CHOICE is that a NAME is false, so each LEARNED CLAUSE wants NAMES
     * true alone, and one set of NAMES holds it.
     */
    private static final class Learned {
        /**
         * No two CONFLICTS come from the same CHOICES, and a CHOICE of the last NAME of 14 comes
         * to none, as that NAME would have been KNOWN: so 2 to the 13 are more than can come.
         */
        private static final int LEARNED_MAX = 1 << 13;

        /** An int has 2 to the 5 bits. */
        private static final int WORD_SHIFT = 5;

        private static final int WORD_MASK = (1 << WORD_SHIFT) - 1;
        private static final int WORDS = 1 << (NAMES_MAX - WORD_SHIFT);

        private int size;
        private final int[] clauses = new int[LEARNED_MAX];
        /**
         * A bit for each set of NAMES: whether a LEARNED CLAUSE has none but these, so that not
         * all of them can be false. It spares a walk through thousands of CLAUSES.
         */
        private final int[] barred = new int[WORDS];

        int howMany() {
            return size;
        }

        int at(int k) {
            return k >= 0 && k < size ? clauses[k] : 0;
        }

        void removeAll() {
            size = 0;
            Arrays.fill(barred, 0);
        }

        void add(int clause, int allNames) {
            if (size >= LEARNED_MAX) {
                return;
            }
            clauses[size] = clause;
            size++;
            int others = allNames & ~clause;
            // Each set of the others is less than the one before it, down to none of them.
            for (int more = others; more > 0; more = (more - 1) & others) {
                bar(clause | more);
            }
            bar(clause);
        }

        private void bar(int set) {
            barred[(set >> WORD_SHIFT) & (WORDS - 1)] |= 1 << (set & WORD_MASK);
        }

        boolean bars(int set) {
            int word = barred[(set >> WORD_SHIFT) & (WORDS - 1)];
            return (word >> (set & WORD_MASK) & 1) == 1;
        }
    }

    /** What is KNOWN AT ONCE from LITERALS that are taken to be so. */
    private static final class AtOnce {
        static final int BY_THINGS = 0;
        static final int WITH_LEMMAS = 1;
        static final int WITH_LEARNED = 2;

        private final Things things;
        private final Lemmas heldLemmas;
        private final Learned learnedClauses;
        private int isTrue;
        private int isFalse;
        private boolean clash;

        AtOnce(Things things, Lemmas heldLemmas, Learned learnedClauses) {
            this.things = things;
            this.heldLemmas = heldLemmas;
            this.learnedClauses = learnedClauses;
        }

        int trueNames() {
            return isTrue;
        }

        int falseNames() {
            return isFalse;
        }

        /** Whether there is a CONFLICT; if not, trueNames and falseNames are what is KNOWN. */
        boolean clashes(int takenTrue, int takenFalse, int by) {
            isTrue = takenTrue;
            isFalse = takenFalse;
            clash = (takenTrue & takenFalse) != 0;
            boolean more = true;
            // Each round but the last tells a NAME more, so there are at most NAMES_MAX + 1.
            for (int round = 0; round <= NAMES_MAX && more && !clash; round++) {
                int before = isTrue | isFalse;
                followThings();
                if (by == WITH_LEMMAS) {
                    followLemmas();
                } else if (by == WITH_LEARNED) {
                    followLearned();
                }
                more = (isTrue | isFalse) != before;
            }
            return clash;
        }

        private void followThings() {
            int end = things.numbersGiven();
            for (int t = 0; t < end && !clash; t++) {
                if (things.isRow(t)) {
                    followRow(t);
                } else if (things.stands(t)) {
                    followClause(things.wantedTrue(t), things.wantedFalse(t));
                }
            }
        }

        private void followLemmas() {
            int end = heldLemmas.howMany();
            for (int k = 0; k < end && !clash; k++) {
                followClause(heldLemmas.wantedTrue(k), heldLemmas.wantedFalse(k));
            }
        }

        private void followLearned() {
            if (learnedClauses.howMany() == 0) {
                return;
            }
            if (learnedClauses.bars(isFalse)) {
                clash = true;
                return;
            }
            int end = things.names();
            for (int n = 0; n < end; n++) {
                if (!isKnown(n) && learnedClauses.bars(isFalse | 1 << n)) {
                    isTrue |= 1 << n;
                }
            }
        }

        private void followClause(int wantTrue, int wantFalse) {
            if ((wantTrue & isTrue) != 0 || (wantFalse & isFalse) != 0) {
                return;
            }
            int openTrue = wantTrue & ~isFalse;
            int openFalse = wantFalse & ~isTrue;
            int open = literalsIn(openTrue, openFalse);
            if (open == 0) {
                clash = true;
            } else if (open == 1) {
                isTrue |= openTrue;
                isFalse |= openFalse;
            }
        }

        private void followRow(int row) {
            int room = things.boundOf(row) - leastSum(row);
            if (room < 0) {
                clash = true;
                return;
            }
            // What is told here leaves the least sum, and so the room, as it is.
            int end = things.names();
            for (int n = 0; n < end; n++) {
                int w = things.weightOf(row, n);
                if (w > room && !isKnown(n)) {
                    isFalse |= 1 << n;
                } else if (-w > room && !isKnown(n)) {
                    isTrue |= 1 << n;
                }
            }
        }

        private int leastSum(int row) {
            int sum = 0;
            int end = things.names();
            for (int n = 0; n < end; n++) {
                int w = things.weightOf(row, n);
                if ((isTrue >> n & 1) == 1 || w < 0 && (isFalse >> n & 1) == 0) {
                    sum += w;
                }
            }
            return sum;
        }

        private boolean isKnown(int name) {
            return ((isTrue | isFalse) >> name & 1) == 1;
        }
    }

    /** THE SEARCH, done once after a change of NAMES or THINGS. */
    private static final class Search {
        /** Far above the CONFLICTS and CHOICES that can come: 2 to the 13, and 14 to each. */
        private static final int STEPS_MAX = 1_000_000;

        private final Things things;
        private final AtOnce atOnce;
        private final Learned learnedClauses;
        private boolean isDone;
        private boolean found;
        private int model;
        private int conflicts;
        private int choicesMade;
        /**
         * The NAMES chosen to be false. When one is chosen all lesser ones are KNOWN, so the order
         * of the CHOICES is that of the NAMES.
         */
        private int choices;

        Search(Things things, AtOnce atOnce, Learned learnedClauses) {
            this.things = things;
            this.atOnce = atOnce;
            this.learnedClauses = learnedClauses;
        }

        void outdate() {
            isDone = false;
        }

        /** Nothing below tells of the present THINGS before this was called. */
        void run() {
            if (isDone) {
                return;
            }
            start();
            for (int step = 0; step < STEPS_MAX && !isDone; step++) {
                if (!atOnce.clashes(0, choices, AtOnce.WITH_LEARNED)) {
                    choose();
                } else {
                    conflicts++;
                    isDone = choices == 0;
                    if (!isDone) {
                        learn(reason());
                    }
                }
            }
        }

        boolean hasModel() {
            return found;
        }

        int firstModel() {
            return model;
        }

        int conflicts() {
            return conflicts;
        }

        int choicesMade() {
            return choicesMade;
        }

        int learnedClauses() {
            return learnedClauses.howMany();
        }

        int learnedClause(int k) {
            return learnedClauses.at(k);
        }

        private void start() {
            learnedClauses.removeAll();
            found = false;
            model = 0;
            conflicts = 0;
            choicesMade = 0;
            choices = 0;
        }

        private void choose() {
            int open = things.allNames() & ~(atOnce.trueNames() | atOnce.falseNames());
            if (open == 0) {
                found = true;
                model = atOnce.trueNames();
                isDone = true;
            } else {
                choices |= open & -open;
                choicesMade++;
            }
        }

        private int reason() {
            int left = choices;
            for (int n = NAMES_MAX - 1; n >= 0; n--) {
                int without = left & ~(1 << n);
                if (without != left && atOnce.clashes(0, without, AtOnce.WITH_LEARNED)) {
                    left = without;
                }
            }
            return left;
        }

        private void learn(int reason) {
            learnedClauses.add(reason, things.allNames());
            int lastButOne = latest(reason & ~latest(reason));
            choices &= lastButOne == 0 ? 0 : 2 * lastButOne - 1;
        }

        private static int latest(int names) {
            for (int n = NAMES_MAX - 1; n >= 0; n--) {
                if ((names >> n & 1) == 1) {
                    return 1 << n;
                }
            }
            return 0;
        }
    }

    /** All MODELS, looked through when they are first asked of after a change. */
    private static final class Models {
        private static final int HALF = NAMES_MAX / 2;
        private static final int HALF_SETS = 1 << HALF;

        private final Things things;
        /** For each set of true NAMES the THINGS that it does not keep. */
        private final long[] broken = new long[1 << NAMES_MAX];
        private final int[] costs = new int[NAMES_MAX];
        /** A sum for each set of the lesser half of the NAMES, and of the greater half. */
        private final int[] lowSums = new int[HALF_SETS];
        private final int[] highSums = new int[HALF_SETS];
        private boolean isCounted;
        private boolean isCored;
        private int size;
        private int inAll;
        private int inSome;
        private int least;
        private int firstBest;
        private long coreThings;

        Models(Things things) {
            this.things = things;
        }

        void outdate() {
            isCounted = false;
            isCored = false;
        }

        void setCost(int name, int v) {
            costs[name] = v;
            isCounted = false;
        }

        void removeCosts() {
            Arrays.fill(costs, 0);
        }

        int modelCount() {
            countAll();
            return size;
        }

        int trueInAll() {
            countAll();
            return inAll;
        }

        int falseInAll() {
            countAll();
            return things.allNames() & ~inSome;
        }

        int leastCost() {
            countAll();
            return least;
        }

        int firstBest() {
            countAll();
            return firstBest;
        }

        /** THE CORE; it is asked for only where there is no MODEL. */
        long coreThings() {
            if (!isCored) {
                readThings();
                coreThings = things.standing();
                for (int t = THINGS_MAX - 1; t >= 0; t--) {
                    long without = coreThings & ~(1L << t);
                    if (without != coreThings && !areKeptTogether(without)) {
                        coreThings = without;
                    }
                }
                isCored = true;
            }
            return coreThings;
        }

        private boolean areKeptTogether(long some) {
            int end = 1 << things.names();
            for (int set = 0; set < end; set++) {
                if ((broken[set] & some) == 0L) {
                    return true;
                }
            }
            return false;
        }

        private void countAll() {
            if (isCounted) {
                return;
            }
            readThings();
            layOutCosts();
            size = 0;
            inAll = things.allNames();
            inSome = 0;
            least = 0;
            firstBest = 0;
            long all = things.standing();
            int end = 1 << things.names();
            for (int set = 0; set < end; set++) {
                if ((broken[set] & all) == 0L) {
                    countOne(set);
                }
            }
            isCounted = true;
        }

        private void countOne(int set) {
            int sum = sumOf(set);
            if (size == 0 || sum < least || sum == least && isBefore(set, firstBest)) {
                least = sum;
                firstBest = set;
            }
            size++;
            inAll &= set;
            inSome |= set;
        }

        /** Whether the least NAME that two differ in is false in the one and true in the other. */
        private static boolean isBefore(int one, int other) {
            int differ = one ^ other;
            return (other & differ & -differ) != 0;
        }

        private void readThings() {
            int end = things.numbersGiven();
            for (int t = 0; t < end; t++) {
                if (things.isUnread(t)) {
                    if (things.isRow(t)) {
                        readRow(t);
                    } else {
                        readClause(t);
                    }
                }
            }
            things.allRead();
        }

        private void readClause(int clause) {
            int wantTrue = things.wantedTrue(clause);
            int wantFalse = things.wantedFalse(clause);
            int end = 1 << things.names();
            for (int set = 0; set < end; set++) {
                mark(set, clause, (set & wantTrue) == 0 && (~set & wantFalse) == 0);
            }
        }

        private void readRow(int row) {
            lowSums[0] = 0;
            highSums[0] = 0;
            for (int n = 0; n < HALF; n++) {
                widen(lowSums, n, things.weightOf(row, n));
                widen(highSums, n, things.weightOf(row, n + HALF));
            }
            int bound = things.boundOf(row);
            int end = 1 << things.names();
            for (int set = 0; set < end; set++) {
                mark(set, row, sumOf(set) > bound);
            }
        }

        private void layOutCosts() {
            lowSums[0] = 0;
            highSums[0] = 0;
            for (int n = 0; n < HALF; n++) {
                widen(lowSums, n, costs[n]);
                widen(highSums, n, costs[n + HALF]);
            }
        }

        /** The sums of the sets with NAME n, from those of the sets of lesser NAMES. */
        private static void widen(int[] sums, int n, int v) {
            int with = 1 << n;
            for (int set = 0; set < with; set++) {
                sums[set | with] = sums[set] + v;
            }
        }

        private int sumOf(int set) {
            return lowSums[set & (HALF_SETS - 1)] + highSums[(set >> HALF) & (HALF_SETS - 1)];
        }

        private void mark(int set, int thing, boolean isBroken) {
            long bit = 1L << thing;
            broken[set] = isBroken ? broken[set] | bit : broken[set] & ~bit;
        }
    }
}
