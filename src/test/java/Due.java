import java.util.Arrays;
import java.util.function.Consumer;
import java.util.function.ToIntFunction;

/** What tests of single answers share: calls that put a state together, and what is due of it. */
abstract class Due {
    static final int LEAST = Integer.MIN_VALUE;
    static final int MOST = Integer.MAX_VALUE;

    final Check check = new Check();

    void due(String what, int got, int want) {
        check.due(what, got, want);
    }

    static LearnedReasons withNames(int names) {
        LearnedReasons x = new LearnedReasons();
        addNames(x, names);
        return x;
    }

    static void addNames(LearnedReasons x, int names) {
        for (int n = 0; n < names; n++) x.name();
    }

    static int addClause(LearnedReasons x, int... literals) {
        addLiterals(x, literals);
        return x.clause();
    }

    static void addLiterals(LearnedReasons x, int... literals) {
        for (int l : literals) x.literal(l);
    }

    static int addRow(LearnedReasons x, int bound, int... weights) {
        int row = x.row(bound);
        for (int n = 0; n < weights.length; n++) x.weight(row, n, weights[n]);
        return row;
    }

    static int tryLemma(LearnedReasons x, int... literals) {
        addLiterals(x, literals);
        return x.lemma();
    }

    /** Whatever the THINGS are, it is a LEMMA that NAME 0 is true or false. */
    static void keepLemma(LearnedReasons x) {
        tryLemma(x, 0, 1);
    }

    /** As many times the same number. */
    static int[] times(int many, int number) {
        int[] all = new int[many];
        Arrays.fill(all, number);
        return all;
    }

    /**
     * The call must answer as is due, and all that is asked behind it must be answered as if it
     * had never been made: objects in the same state tell, some with the call and some without.
     */
    void changesNothing(
            String what, Consumer<LearnedReasons> state, ToIntFunction<LearnedReasons> call, int want) {
        Consumer<LearnedReasons> twice = x -> {
            state.accept(x);
            due(what, call.applyAsInt(x), want);
            due(what + ", again", call.applyAsInt(x), want);
        };
        check.that(what + " changes nothing", areAlike(twice, state));
    }

    /** Whether objects made in two ways answer all later calls alike. */
    static boolean areAlike(Consumer<LearnedReasons> one, Consumer<LearnedReasons> other) {
        return later(one, 0).equals(later(other, 0)) && later(one, 1).equals(later(other, 1));
    }

    private static String later(Consumer<LearnedReasons> state, int firstLiteral) {
        LearnedReasons x = new LearnedReasons();
        state.accept(x);
        return Later.answers(x, firstLiteral);
    }
}
