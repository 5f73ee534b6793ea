import java.util.function.Consumer;

/** States of an object, each made by a run of calls from a new one. */
enum States {
    NEW(States::makeNew),
    IN_USE(States::makeInUse),
    WITHOUT_MODEL(States::makeWithoutModel),
    FULL(States::makeFull),
    FULL_WITHOUT_MODEL(States::makeFullWithoutModel);

    private final Consumer<LearnedReasons> calls;

    States(Consumer<LearnedReasons> calls) {
        this.calls = calls;
    }

    void make(LearnedReasons x) {
        calls.accept(x);
    }

    LearnedReasons made() {
        LearnedReasons x = new LearnedReasons();
        make(x);
        return x;
    }

    private static void makeNew(LearnedReasons x) {
        // No call.
    }

    /** 5 NAMES; THINGS 0 to 5, of which 1 was dropped; 2 at hand, 2 ASSUMED, 2 LEMMAS; MODELS. */
    private static void makeInUse(LearnedReasons x) {
        Due.addNames(x, 5);
        Due.addClause(x, 2, 4);
        Due.addClause(x, 0);
        x.drop(1);
        Due.addRow(x, 3, 1, 2, 2, -1, 1);
        Due.addClause(x, 2, 5);
        Due.addClause(x, 3, 6, 9);
        Due.addRow(x, -1, -2, 1, 0, 0, -3);
        for (int n = 0; n < 5; n++) x.cost(n, 4 - 3 * n);
        Due.tryLemma(x, 2);
        Due.keepLemma(x);
        x.assume(6);
        x.assume(9);
        Due.addLiterals(x, 0, 7);
    }

    /** 4 NAMES, all of whose MODELS are barred by THINGS 0 to 3, and 4; 1 at hand, 2 ASSUMED. */
    private static void makeWithoutModel(LearnedReasons x) {
        Due.addNames(x, 4);
        Due.addClause(x, 0, 2);
        Due.addClause(x, 0, 3);
        Due.addClause(x, 1, 4);
        Due.addClause(x, 1, 5);
        Due.addRow(x, 2, 1, 1, 1, 1);
        x.cost(1, -7);
        Due.tryLemma(x, 0);
        x.assume(6);
        x.assume(1);
        x.literal(5);
    }

    /** 14 NAMES, 60 THINGS of which 2 were dropped, 8 at hand, 3 ASSUMED, 40 LEMMAS; MODELS. */
    private static void makeFull(LearnedReasons x) {
        Due.addNames(x, 14);
        Due.addRow(x, 3, 1, 0, 2, 0, 2, 1);
        Due.addClause(x, 6);
        for (int t = 2; t < 60; t++) x.row(0);
        x.drop(2);
        x.drop(59);
        x.cost(2, -3);
        x.cost(13, 2);
        for (int k = 0; k < 40; k++) Due.tryLemma(x, 6);
        x.assume(6);
        x.assume(4);
        x.assume(27);
        Due.addLiterals(x, 0, 3, 4, 7, 8, 9, 26, 27);
    }

    /** The same bounds, with a ROW that nothing keeps, so that the empty CLAUSE is a LEMMA. */
    private static void makeFullWithoutModel(LearnedReasons x) {
        Due.addNames(x, 14);
        Due.addRow(x, -1, 1, 2);
        for (int t = 1; t < 60; t++) x.row(t % 3 - 1);
        for (int t = 1; t < 12; t++) x.drop(t);
        for (int k = 0; k < 40; k++) x.lemma();
        for (int l = 0; l < 28; l++) x.assume(l);
        Due.addLiterals(x, 0, 1, 2, 3, 4, 5, 6, 7);
    }
}
