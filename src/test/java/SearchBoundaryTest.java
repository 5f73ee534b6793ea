/**
 * The sentences of 'Terms' on AT ONCE, THE SEARCH, THE CORE and LEMMAS that name a boundary: each
 * at the boundary, one below it and one above it.
 */
public final class SearchBoundaryTest extends Due {
    public static void main(String[] args) {
        SearchBoundaryTest test = new SearchBoundaryTest();
        test.theLastLiteralOfAClause();
        test.aClauseWithBothOfAName();
        test.aWeightAbove0();
        test.aWeightBelow0();
        test.aWeightOf0();
        test.weightsAtTheirEnds();
        test.andSoOn();
        test.allLiteralsAreNotSo();
        test.mIsAboveTheBound();
        test.oppositesAreTaken();
        test.oppositesAreKnown();
        test.noConflictAndNoNames();
        test.aConflictWithoutChoices();
        test.aReasonOfOne();
        test.aReasonOfTwo();
        test.aReasonOfThree();
        test.aReasonFromTheLatest();
        test.aReasonOfLearned();
        test.aLearnedClauseThatIsNotSo();
        test.allNamesAreKnown();
        test.theCoreFromTheGreatest();
        test.theCoreOfAll();
        test.theCoreOfOne();
        test.lemmasBefore();
        test.lemmasBeforeThatAreFalse();
        test.check.end();
    }

    /** "of a CLAUSE whose other LITERALS are all KNOWN not to be so the last one". */
    private void theLastLiteralOfAClause() {
        LearnedReasons x = withNames(3);
        addClause(x, 0, 3, 4);
        due("CLAUSE: none is not so", x.known(2), 2);
        x.assume(1);
        due("CLAUSE: one is not so, of the next", x.known(1), 2);
        due("CLAUSE: and of the last", x.known(2), 2);
        x.assume(2);
        due("CLAUSE: two are not so", x.known(2), 1);
        x.forget();
        x.assume(5);
        x.assume(2);
        due("CLAUSE: whichever is the last", x.known(0), 1);
        x.forget();
        x.assume(1);
        x.assume(5);
        due("CLAUSE: one that is false", x.known(1), 0);
        x.forget();
        x.assume(0);
        x.assume(2);
        due("CLAUSE: one is so, the last is free", x.known(2), 2);
        addClause(x, 5);
        due("CLAUSE: of one LITERAL", x.known(2), 0);
    }

    private void aClauseWithBothOfAName() {
        LearnedReasons x = withNames(2);
        addClause(x, 0, 1, 2);
        x.assume(3);
        due("both: no CONFLICT", x.conflict(), 0);
        due("both: nothing of the NAME", x.known(0), 2);
        x.assume(0);
        due("both: nor with the one", x.known(0), 1);
        x.forget();
        x.assume(1);
        due("both: nor with the other", x.known(0), 0);
        due("both: the third is free", x.known(1), 2);
        due("both: all MODELS", x.count(), 4);
    }

    /** "that a NAME not KNOWN is false, if its WEIGHT is above 0 and m and it are above the BOUND". */
    private void aWeightAbove0() {
        for (int w = 1; w <= 3; w++) {
            LearnedReasons x = withNames(3);
            addRow(x, 1, 2, w, -3);
            due("ROW: m is -3, WEIGHT " + w, x.known(1), 2);
            x.assume(0);
            due("ROW: m is -1, WEIGHT " + w, x.known(1), w > 2 ? 0 : 2);
            x.assume(5);
            due("ROW: m is 2, above the BOUND", x.conflict(), 1);
            x.drop(0);
            addRow(x, 4, 2, w, -3);
            due("ROW: m is 2 of 4, WEIGHT " + w, x.known(1), w > 2 ? 0 : 2);
            x.assume(2);
            due("ROW: the sum is " + (2 + w), x.conflict(), w > 2 ? 1 : 0);
        }
    }

    /** "that it is true, if its WEIGHT is below 0 and m less it is above the BOUND". */
    private void aWeightBelow0() {
        for (int w = -3; w <= -1; w++) {
            LearnedReasons x = withNames(3);
            // m is w - 2, and w + 1 with NAME 0; without NAME 1 it is by -w more.
            addRow(x, 0, 3, w, -2);
            due("ROW: m is " + (w - 2) + ", WEIGHT " + w, x.known(1), 2);
            x.assume(0);
            due("ROW: m less it is 1", x.known(1), 1);
            due("ROW: NAME 2 may be false if it is enough", x.known(2), w == -3 ? 2 : 1);
            x.drop(0);
            addRow(x, 1, 3, w, -2);
            due("ROW: m less it is the BOUND", x.known(1), 2);
            x.assume(3);
            due("ROW: and then it may be false", x.conflict(), 0);
            due("ROW: and NAME 2 must be true", x.known(2), 1);
        }
    }

    private void aWeightOf0() {
        LearnedReasons x = withNames(2);
        addRow(x, 3, 0, 3);
        x.assume(2);
        due("ROW: a WEIGHT of 0 at the BOUND tells nothing", x.known(0), 2);
        x.drop(0);
        addRow(x, 2, 0, 3);
        due("ROW: nor above it, but there is a CONFLICT", x.conflict(), 1);
    }

    private void weightsAtTheirEnds() {
        LearnedReasons x = withNames(14);
        int row = addRow(x, 200, times(14, 20));
        for (int n = 0; n < 9; n++) x.assume(2 * n);
        due("ends: 180 and 20 are not above", x.known(13), 2);
        x.assume(18);
        due("ends: 200 and 20 are", x.known(13), 0);
        x.assume(20);
        due("ends: 220", x.conflict(), 1);
        x.forget();
        x.drop(row);
        row = addRow(x, -200, times(14, -20));
        for (int n = 0; n < 3; n++) x.assume(2 * n + 1);
        due("ends: -220 less -20 is not above", x.known(13), 2);
        x.assume(7);
        due("ends: -200 less -20 is", x.known(13), 1);
        x.assume(9);
        due("ends: -180", x.conflict(), 1);
    }

    /** "And so on, as long as there comes more." */
    private void andSoOn() {
        LearnedReasons x = withNames(14);
        // Each tells the one before it, so that a walk through the THINGS tells one at a time.
        for (int n = 0; n < 13; n++) {
            if (n % 2 == 0) addClause(x, 2 * n, 2 * n + 3); else backwardRow(x, n);
        }
        due("and so on: from nothing", x.known(0), 2);
        x.assume(26);
        for (int n = 0; n < 14; n++) due("and so on: NAME " + n, x.known(n), 1);
        addClause(x, 1);
        due("and so on: to a CONFLICT", x.conflict(), 1);
    }

    /** NAME n + 1 is not true without NAME n. */
    private static void backwardRow(LearnedReasons x, int n) {
        int row = x.row(0);
        x.weight(row, n, -1);
        x.weight(row, n + 1, 1);
    }

    /** "There is a CONFLICT, if all LITERALS of a CLAUSE are KNOWN not to be so". */
    private void allLiteralsAreNotSo() {
        LearnedReasons x = withNames(2);
        addClause(x, 0, 2);
        x.assume(1);
        due("not so: all but one", x.conflict(), 0);
        x.assume(3);
        due("not so: all", x.conflict(), 1);
        x.forget();
        due("not so: none", x.conflict(), 0);
        x.clause();
        due("not so: all of no LITERALS", x.conflict(), 1);
    }

    /** "m of a ROW is above its BOUND". */
    private void mIsAboveTheBound() {
        for (int bound = -3; bound <= -1; bound++) {
            LearnedReasons x = withNames(2);
            addRow(x, bound, -2, 5);
            due("m: -2, BOUND " + bound, x.conflict(), bound < -2 ? 1 : 0);
            due("m: NAME 0", x.known(0), bound < -2 ? -2 : 1);
        }
        LearnedReasons y = new LearnedReasons();
        y.row(0);
        due("m: without NAMES it is 0, of 0", y.conflict(), 0);
        y.row(-1);
        due("m: of -1", y.conflict(), 1);
    }

    /** "a LITERAL and its opposite are both taken". */
    private void oppositesAreTaken() {
        LearnedReasons x = withNames(14);
        for (int l : new int[] {0, 26}) {
            x.assume(l);
            due("taken: one", x.conflict(), 0);
            x.assume(l);
            due("taken: the same twice", x.conflict(), 0);
            x.assume(l + 1);
            due("taken: both", x.conflict(), 1);
            due("taken: what is KNOWN then", x.known(7), -2);
            due("taken: two", x.forget(), 2);
        }
    }

    /** ".. or KNOWN." */
    private void oppositesAreKnown() {
        LearnedReasons x = withNames(3);
        addClause(x, 1, 2);
        addClause(x, 1, 4);
        addRow(x, 1, 0, 1, 1);
        due("KNOWN: from nothing", x.conflict(), 0);
        x.assume(0);
        due("KNOWN: true by CLAUSES, and not both by the ROW", x.conflict(), 1);
        due("KNOWN: none then", x.known(1), -2);
        x.forget();
        x.assume(1);
        due("KNOWN: from the opposite", x.conflict(), 0);
        due("KNOWN: so there are MODELS", x.count(), 3);
    }

    private void noConflictAndNoNames() {
        LearnedReasons x = new LearnedReasons();
        due("no NAMES: all are KNOWN", x.search(), 1);
        for (int what = 0; what < 3; what++) due("no NAMES: told " + what, x.told(what), 0);
        due("no NAMES: one MODEL", x.count(), 1);
        x.row(-1);
        due("no NAMES: a CONFLICT", x.search(), 0);
        due("no NAMES: one", x.told(0), 1);
        due("no NAMES: no CHOICES", x.told(1), 0);
        due("no NAMES: none LEARNED", x.told(2), 0);
    }

    /** "With a CONFLICT and no CHOICES there is no MODEL." */
    private void aConflictWithoutChoices() {
        LearnedReasons x = withNames(3);
        addClause(x, 0);
        due("no CHOICES: none is needed for NAME 0", x.told(1), 2);
        addRow(x, 0, 1);
        due("no CHOICES: no MODEL", x.search(), 0);
        due("no CHOICES: one CONFLICT", x.told(0), 1);
        due("no CHOICES: made", x.told(1), 0);
        due("no CHOICES: LEARNED", x.told(2), 0);
        due("no CHOICES: no LEARNED CLAUSE", x.learned(0, 0), -1);
        x.drop(1);
        due("no CHOICES: a MODEL again", x.search(), 1);
        due("no CHOICES: no CONFLICT", x.told(0), 0);
    }

    /** "(all go, if it has one alone, or none)": CHOICE 0 is made again behind REASON 1. */
    private void aReasonOfOne() {
        LearnedReasons x = withNames(3);
        addClause(x, 2, 4);
        addClause(x, 2, 5);
        due("one alone: it is LEARNED", x.learned(0, 0), 2);
        due("one alone: it has no more", x.learned(0, 1), -1);
        due("one alone: CHOICES 0 and 1, then 0 and 2", x.told(1), 4);
        due("one alone: a CONFLICT", x.told(0), 1);
        due("one alone: a CLAUSE", x.told(2), 1);
        due("one alone: the MODEL", x.value(1), 1);
    }

    /** "till just those are left that came not behind the last but one of the REASON". */
    private void aReasonOfTwo() {
        LearnedReasons x = withNames(5);
        // CHOICES 0, 1, 2, 3; the REASON is 1 and 3: 0 and 1 stay, 2 goes and is made again.
        addClause(x, 2, 6, 8);
        addClause(x, 2, 6, 9);
        due("of two: the first", x.learned(0, 0), 2);
        due("of two: the second", x.learned(0, 1), 6);
        due("of two: no third", x.learned(0, 2), -1);
        due("of two: one CONFLICT", x.told(0), 1);
        due("of two: CHOICES 0 to 3, then 2 and 4", x.told(1), 6);
        LearnedReasons y = withNames(4);
        // The REASON is 0 and 2: 0 alone stays, 1 is made again, 2 is KNOWN to be true.
        addClause(y, 0, 4, 6);
        addClause(y, 0, 4, 7);
        due("of two: CHOICES 0, 1, 2, then 1 and 3", y.told(1), 5);
        due("of two: the MODEL", y.value(2), 1);
    }

    private void aReasonOfThree() {
        LearnedReasons x = withNames(6);
        // The REASON is 0, 2 and 4: 0, 1 and 2 stay.
        addClause(x, 0, 4, 8, 10);
        addClause(x, 0, 4, 8, 11);
        for (int i = 0; i < 3; i++) due("of three: LITERAL " + i, x.learned(0, i), 4 * i);
        due("of three: no fourth", x.learned(0, 3), -1);
        due("of three: no second CLAUSE", x.learned(1, 0), -1);
        due("of three: CHOICES 0 to 4, then 3 and 5", x.told(1), 7);
    }

    /** "from the latest one to the first each is left out with which there would be a CONFLICT". */
    private void aReasonFromTheLatest() {
        LearnedReasons x = withNames(5);
        // 0 and 3, or 1 and 3, or 2 and 3 are enough: 2 is left out first, then 1.
        for (int n = 0; n < 3; n++) {
            addClause(x, 2 * n, 6, 8);
            addClause(x, 2 * n, 6, 9);
        }
        due("from the latest: 0 stays", x.learned(0, 0), 0);
        due("from the latest: and 3", x.learned(0, 1), 6);
        due("from the latest: no other", x.learned(0, 2), -1);
        due("from the latest: CHOICES 0 to 3, then 1, 2 and 4", x.told(1), 7);
    }

    /** "What is KNOWN AT ONCE goes by THINGS and LEARNED CLAUSES": what was LEARNED tells more. */
    private void aReasonOfLearned() {
        LearnedReasons x = withNames(4);
        addClause(x, 0, 4, 6);
        addClause(x, 0, 4, 7);
        addClause(x, 0, 5, 6);
        addClause(x, 0, 5, 7);
        due("LEARNED: with 0 and 2 false there is a CONFLICT", x.learned(0, 1), 4);
        due("LEARNED: so with 0 alone there is one", x.learned(1, 0), 0);
        due("LEARNED: alone", x.learned(1, 1), -1);
        due("LEARNED: CONFLICTS", x.told(0), 2);
        addClause(x, 1, 4, 6);
        addClause(x, 1, 4, 7);
        addClause(x, 1, 5, 6);
        addClause(x, 1, 5, 7);
        due("LEARNED: no MODEL", x.search(), 0);
        // Then, with 0 true, 2 false is a CONFLICT by itself, and at last without CHOICES.
        due("LEARNED: 2 alone", x.learned(2, 0), 4);
        due("LEARNED: 2 alone", x.learned(2, 1), -1);
        due("LEARNED: no more", x.learned(3, 0), -1);
        due("LEARNED: the last CONFLICT teaches nothing", x.told(0), 4);
        due("LEARNED: three", x.told(2), 3);
    }

    /**
     * "all LITERALS of a CLAUSE are KNOWN not to be so" holds of a LEARNED one too: it alone bars
     * CHOICES 0 and 4, by which THINGS tell that NAME 1 is false.
     */
    private void aLearnedClauseThatIsNotSo() {
        LearnedReasons x = withNames(6);
        addClause(x, 0, 2, 4, 6);
        addClause(x, 0, 2, 4, 7);
        addClause(x, 0, 2, 5, 6);
        addClause(x, 0, 2, 5, 7);
        addClause(x, 8, 10);
        addClause(x, 8, 11, 3);
        for (int i = 0; i < 3; i++) due("LEARNED, not so: 0, 1 and 2", x.learned(0, i), 2 * i);
        due("LEARNED, not so: by it 0 ..", x.learned(1, 0), 0);
        due("LEARNED, not so: .. and 1", x.learned(1, 1), 2);
        due("LEARNED, not so: .. alone", x.learned(1, 2), -1);
        due("LEARNED, not so: by that one 0 ..", x.learned(2, 0), 0);
        due("LEARNED, not so: .. and 4", x.learned(2, 1), 8);
        due("LEARNED, not so: .. alone", x.learned(2, 2), -1);
        due("LEARNED, not so: three", x.told(2), 3);
        due("LEARNED, not so: CONFLICTS", x.told(0), 3);
        // 0, 1, 2; then 2, 3, 4, of which 2 and 3 go with 4 and are made again; then 5.
        due("LEARNED, not so: CHOICES", x.told(1), 9);
    }

    /** "if all NAMES are KNOWN, that is the MODEL". */
    private void allNamesAreKnown() {
        LearnedReasons x = withNames(14);
        due("all KNOWN: 14 CHOICES", x.told(1), 14);
        for (int n = 0; n < 13; n++) addClause(x, 2 * n + n % 2);
        due("all KNOWN: one CHOICE", x.told(1), 1);
        addClause(x, 27);
        due("all KNOWN: none", x.told(1), 0);
        due("all KNOWN: without a CONFLICT", x.told(0), 0);
        for (int n = 0; n < 14; n++) due("all KNOWN: NAME " + n, x.value(n), 1 - n % 2);
    }

    /** "of the THINGS, from the one with the greatest number down, each is left out ..". */
    private void theCoreFromTheGreatest() {
        LearnedReasons x = withNames(2);
        addClause(x, 0);
        addClause(x, 1);
        addClause(x, 2);
        addClause(x, 3);
        due("CORE: the lesser ones stay", x.core(0), 0);
        due("CORE: both", x.core(1), 1);
        due("CORE: no more", x.core(2), -1);
        x.drop(1);
        due("CORE: else the greater ones", x.core(0), 2);
        due("CORE: both of them", x.core(1), 3);
        due("CORE: without the first", x.core(2), -1);
        x.drop(2);
        due("CORE: none with a MODEL", x.core(0), -2);
    }

    private void theCoreOfAll() {
        LearnedReasons x = withNames(14);
        x.drop(x.clause());
        for (int n = 0; n < 14; n++) addClause(x, 2 * n + 1);
        addRow(x, -1, times(14, -1));
        due("CORE of all: no MODEL", x.count(), 0);
        for (int k = 0; k < 15; k++) due("CORE of all: THING " + k, x.core(k), k + 1);
        due("CORE of all: no more", x.core(15), -1);
        due("CORE of all: one goes", x.drop(14), 14);
        due("CORE of all: a MODEL", x.core(0), -2);
        due("CORE of all: that one", x.fixed(13), 1);
    }

    private void theCoreOfOne() {
        LearnedReasons x = new LearnedReasons();
        for (int t = 0; t < 59; t++) x.row(0);
        due("CORE: the 60th THING", x.row(-1), 59);
        due("CORE of one: it", x.core(0), 59);
        due("CORE of one: no more", x.core(1), -1);
        LearnedReasons y = new LearnedReasons();
        y.clause();
        for (int t = 1; t < 60; t++) y.clause();
        due("CORE of one: the least of 60", y.core(0), 0);
        due("CORE of one: no other", y.core(1), -1);
    }

    /** "by THINGS and the LEMMAS before, from the opposites of its LITERALS." */
    private void lemmasBefore() {
        LearnedReasons x = withNames(3);
        addClause(x, 0, 2, 4);
        addClause(x, 0, 2, 5);
        addClause(x, 0, 3, 4);
        addClause(x, 0, 3, 5);
        due("LEMMA: not without one before", tryLemma(x, 0), 0);
        due("LEMMA: the step", tryLemma(x, 2, 0), 1);
        due("LEMMA: with it before", tryLemma(x, 0), 1);
        due("LEMMA: the opposite is none", tryLemma(x, 1), 0);
        due("LEMMA: they do not tell by THINGS", x.known(0), 2);
        x.assume(1);
        due("LEMMA: nor make a CONFLICT", x.conflict(), 0);
        due("LEMMA: nor are they LEARNED", x.learned(0, 1), 2);
        due("LEMMA: two are kept", x.lemmas(), 2);
    }

    /** The same with each NAME the other way round: a LEMMA may want NAMES to be false. */
    private void lemmasBeforeThatAreFalse() {
        LearnedReasons x = withNames(3);
        addClause(x, 1, 3, 5);
        addClause(x, 1, 3, 4);
        addClause(x, 1, 2, 5);
        addClause(x, 1, 2, 4);
        due("LEMMA, false: not without one before", tryLemma(x, 1), 0);
        due("LEMMA, false: the step", tryLemma(x, 3, 1), 1);
        due("LEMMA, false: with it before", tryLemma(x, 1), 1);
        due("LEMMA, false: by that one", tryLemma(x, 1, 4), 1);
        due("LEMMA, false: the opposite is none", tryLemma(x, 0), 0);
        due("LEMMA, false: nor is another", tryLemma(x, 3), 0);
        due("LEMMA, false: nor the empty one", x.lemma(), 0);
        due("LEMMA, false: three are kept", x.lemmas(), 3);
    }
}
