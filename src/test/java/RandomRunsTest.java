import java.util.Random;

/**
 * Runs of up to 512 calls, picked by fixed seeds, on LearnedReasons and on PlainReasons: every
 * answer must be the same. Wrong numbers are among the arguments.
 */
public final class RandomRunsTest {
    private enum Call {
        NAME(1), LITERAL(16), CLAUSE(5), ROW(2), WEIGHT(8), DROP(3), COST(3), CLEAR(0),
        ASSUME(4), FORGET(2), CONFLICT(3), KNOWN(4), LEMMA(5), LEMMAS(2),
        SEARCH(2), VALUE(4), TOLD(5), LEARNED(9),
        COUNT(2), FIXED(4), BEST(2), BEST_VALUE(4), CORE(5);

        final int share;

        Call(int share) {
            this.share = share;
        }
    }

    private static final Call[] CALLS = Call.values();
    private static final int CALLS_MOST = 512;
    private static final int[] FAR = {
        Integer.MIN_VALUE, Integer.MIN_VALUE + 1, -65536, -201, -51, -21, -1,
        21, 28, 51, 60, 64, 201, 65536, Integer.MAX_VALUE - 1, Integer.MAX_VALUE
    };

    private final Check check;
    private final int number;
    private final Random random;
    private final LearnedReasons tried = new LearnedReasons();
    private final PlainReasons plain = new PlainReasons();
    private int names;
    private int things;
    private int made;

    private RandomRunsTest(Check check, int number) {
        this.check = check;
        this.number = number;
        this.random = new Random(number);
    }

    public static void main(String[] args) {
        Check check = new Check();
        for (int run = 0; run < 1000; run++) {
            RandomRunsTest test = new RandomRunsTest(check, run);
            test.begin(1 + run % 6, run % 3 == 0 ? 0 : 4 + run % 17);
            test.goOn(CALLS_MOST);
        }
        // The plain one is slow with many NAMES, so these runs are few and short.
        for (int run = 1000; run < 1040; run++) {
            RandomRunsTest test = new RandomRunsTest(check, run);
            test.begin(7 + run % 4, 16 + run % 17);
            test.goOn(Math.min(test.made + 60, CALLS_MOST));
        }
        for (int run = 2000; run < 2300; run++) {
            RandomRunsTest test = new RandomRunsTest(check, run);
            test.beginTight(6 + run % 9);
            test.askSearch();
        }
        check.end();
    }

    /** About as many THINGS as leave few MODELS or none, so that much is LEARNED. */
    private void beginTight(int namesFirst) {
        for (int n = 0; n < namesFirst; n++) make(Call.NAME, 0, 0, 0);
        int clauses = Math.min(55, namesFirst * 7 / 2 + random.nextInt(namesFirst));
        for (int t = 0; t < clauses; t++) {
            for (int i = 0; i < 3; i++) make(Call.LITERAL, random.nextInt(2 * names), 0, 0);
            make(Call.CLAUSE, 0, 0, 0);
        }
        for (int i = random.nextInt(3); i > 0; i--) makeRow();
    }

    private void askSearch() {
        for (int what = 0; what < 3; what++) make(Call.TOLD, what, 0, 0);
        int clauses = Math.min(10, tried.told(2));
        for (int k = 0; k <= clauses; k++) {
            for (int i = 0; i < 6; i++) make(Call.LEARNED, k, i, 0);
        }
        make(Call.SEARCH, 0, 0, 0);
        make(Call.VALUE, names / 2, 0, 0);
        make(Call.CORE, 0, 0, 0);
    }

    private void begin(int namesFirst, int thingsFirst) {
        for (int n = 0; n < namesFirst; n++) make(Call.NAME, 0, 0, 0);
        for (int t = 0; t < thingsFirst; t++) {
            if (random.nextInt(4) == 0) makeRow(); else makeClause();
        }
    }

    private void makeRow() {
        int row = things;
        make(Call.ROW, random.nextInt(2 * names + 1) - names, 0, 0);
        for (int n = 0; n < names; n++) make(Call.WEIGHT, row, n, random.nextInt(9) - 4);
    }

    private void makeClause() {
        int size = Math.min(names, 1 + random.nextInt(3));
        for (int i = 0; i < size; i++) make(Call.LITERAL, random.nextInt(2 * names), 0, 0);
        make(Call.CLAUSE, 0, 0, 0);
    }

    private void goOn(int end) {
        boolean clears = random.nextInt(8) == 0;
        while (made < end) {
            if (clears && random.nextInt(150) == 0) make(Call.CLEAR, 0, 0, 0);
            Call call = pick();
            if (call == Call.NAME && names >= 6 && random.nextInt(9) != 0) continue;
            makeWithArguments(call);
        }
    }

    private Call pick() {
        int all = 0;
        for (Call call : CALLS) all += call.share;
        int left = random.nextInt(all);
        for (Call call : CALLS) {
            left -= call.share;
            if (left < 0) return call;
        }
        return Call.SEARCH;
    }

    private void makeWithArguments(Call call) {
        int name = random.nextInt(names + 1);
        int thing = random.nextInt(things + 1);
        switch (call) {
            case LITERAL, ASSUME -> make(call, odd(random.nextInt(2 * names + 1)), 0, 0);
            case ROW -> make(call, odd(random.nextInt(31) - 15), 0, 0);
            case WEIGHT -> make(call, odd(thing), odd(name), odd(random.nextInt(23) - 11));
            case DROP -> make(call, odd(thing), 0, 0);
            case COST -> make(call, odd(name), odd(random.nextInt(9) - 4), 0);
            case TOLD -> make(call, odd(random.nextInt(3)), 0, 0);
            case LEARNED -> make(call, odd(random.nextInt(6)), odd(random.nextInt(4)), 0);
            case CORE -> make(call, odd(random.nextInt(5)), 0, 0);
            default -> make(call, odd(name), 0, 0);
        }
    }

    private int odd(int ordinary) {
        return random.nextInt(40) == 0 ? FAR[random.nextInt(FAR.length)] : ordinary;
    }

    private void make(Call call, int a, int b, int c) {
        made++;
        int got = askTried(call, a, b, c);
        check.due("run " + number + ", call " + made + ": " + call + " " + a + " " + b + " " + c,
            got, askPlain(call, a, b, c));
        if (call == Call.VALUE) check.due("run " + number + ": searched " + a, got, plain.searchedValue(a));
        if (call == Call.NAME && got >= 0) names = got + 1;
        if ((call == Call.CLAUSE || call == Call.ROW) && got >= 0) things = got + 1;
        if (call == Call.CLEAR) {
            names = 0;
            things = 0;
        }
    }

    private int askTried(Call call, int a, int b, int c) {
        return switch (call) {
            case NAME -> tried.name();
            case LITERAL -> tried.literal(a);
            case CLAUSE -> tried.clause();
            case ROW -> tried.row(a);
            case WEIGHT -> tried.weight(a, b, c);
            case DROP -> tried.drop(a);
            case COST -> tried.cost(a, b);
            case CLEAR -> tried.clear();
            case ASSUME -> tried.assume(a);
            case FORGET -> tried.forget();
            case CONFLICT -> tried.conflict();
            case KNOWN -> tried.known(a);
            case LEMMA -> tried.lemma();
            case LEMMAS -> tried.lemmas();
            case SEARCH -> tried.search();
            case VALUE -> tried.value(a);
            case TOLD -> tried.told(a);
            case LEARNED -> tried.learned(a, b);
            case COUNT -> tried.count();
            case FIXED -> tried.fixed(a);
            case BEST -> tried.best();
            case BEST_VALUE -> tried.bestValue(a);
            case CORE -> tried.core(a);
        };
    }

    private int askPlain(Call call, int a, int b, int c) {
        return switch (call) {
            case NAME -> plain.name();
            case LITERAL -> plain.literal(a);
            case CLAUSE -> plain.clause();
            case ROW -> plain.row(a);
            case WEIGHT -> plain.weight(a, b, c);
            case DROP -> plain.drop(a);
            case COST -> plain.cost(a, b);
            case CLEAR -> plain.clear();
            case ASSUME -> plain.assume(a);
            case FORGET -> plain.forget();
            case CONFLICT -> plain.conflict();
            case KNOWN -> plain.known(a);
            case LEMMA -> plain.lemma();
            case LEMMAS -> plain.lemmas();
            case SEARCH -> plain.search();
            case VALUE -> plain.value(a);
            case TOLD -> plain.told(a);
            case LEARNED -> plain.learned(a, b);
            case COUNT -> plain.count();
            case FIXED -> plain.fixed(a);
            case BEST -> plain.best();
            case BEST_VALUE -> plain.bestValue(a);
            case CORE -> plain.core(a);
        };
    }
}
