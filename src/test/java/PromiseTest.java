/** For each promise of the document: ordinary inputs, the edges that it names, and wrong inputs. */
public final class PromiseTest extends Due {
    public static void main(String[] args) {
        PromiseTest test = new PromiseTest();
        test.promise1NewObject();
        test.promise2Name();
        test.promise3Literal();
        test.promise4Clause();
        test.promise5Row();
        test.promise6Weight();
        test.promise7Drop();
        test.promise8Cost();
        test.promise9Clear();
        test.promise10Assume();
        test.promise11Forget();
        test.promise12Conflict();
        test.promise13Known();
        test.promise14Lemma();
        test.promise15Lemmas();
        test.promise16Search();
        test.promise17Value();
        test.promise18Told();
        test.promise19Learned();
        test.promise19ReasonFromTheLatest();
        test.promise19ChoicesThatStay();
        test.promise19LearnedIsLong();
        test.promise20Count();
        test.promise21Fixed();
        test.promise22Best();
        test.promise23BestValue();
        test.promise24Core();
        test.check.end();
    }

    private void promise1NewObject() {
        LearnedReasons x = new LearnedReasons();
        due("1: no NAME to assume", x.assume(0), -1);
        due("1: no THING to drop", x.drop(0), -1);
        due("1: no LEMMAS", x.lemmas(), 0);
        due("1: none ASSUMED", x.forget(), 0);
        due("1: one MODEL of no NAMES", x.count(), 1);
        due("1: it costs nothing", x.best(), 0);
        due("1: the CLAUSE at hand is empty and never kept", x.clause(), 0);
        due("1: so there is none with it", x.search(), 0);
        due("1: no NAMES to clear", x.clear(), 0);
    }

    private void promise2Name() {
        LearnedReasons x = new LearnedReasons();
        for (int n = 0; n < 14; n++) due("2: a NAME's number", x.name(), n);
        keepLemma(x);
        due("2: 14 at most", x.name(), -4);
        due("2: refused, it leaves LEMMAS", x.lemmas(), 1);
        due("2: refused, it adds no NAME", x.literal(28), -1);
        due("2: the last one is there", x.known(13), 2);

        LearnedReasons y = withNames(1);
        keepLemma(y);
        due("2: one more", y.name(), 1);
        due("2: LEMMAS are no more", y.lemmas(), 0);
        y.literal(0);
        y.assume(2);
        y.name();
        due("2: the CLAUSE at hand stays", y.literal(0), 1);
        due("2: the ASSUMED stay", y.forget(), 1);
        due("2: MODELS with the new NAME", y.count(), 8);
        int row = addRow(y, -1, -1, -1, -1);
        due("2: not all false", y.count(), 7);
        y.name();
        due("2: a new NAME weighs nothing", y.count(), 14);
        due("2: the ROW is there still", y.weight(row, 3, -1), 1);
        due("2: and can be given its weight", y.count(), 15);
    }

    private void promise3Literal() {
        LearnedReasons x = withNames(9);
        due("3: first", x.literal(17), 1);
        due("3: again", x.literal(17), 1);
        due("3: its opposite is another", x.literal(16), 2);
        due("3: no such NAME", x.literal(18), -1);
        due("3: nor the next", x.literal(19), -1);
        for (int l : new int[] {-1, -2, LEAST, MOST, 1 << 30, 64}) due("3: " + l, x.literal(l), -1);
        for (int l = 0; l < 6; l++) due("3: more", x.literal(l), 3 + l);
        due("3: it has 8", x.literal(6), -4);
        due("3: nor is there room for the next", x.literal(7), -4);
        for (int l : new int[] {0, 1, 2, 3, 4, 5, 16, 17}) {
            due("3: what comes again takes no room", x.literal(l), 8);
        }
        due("3: and makes none", x.literal(6), -4);
        due("3: no such NAME comes first", x.literal(18), -1);
        due("3: the 8 are a CLAUSE", x.clause(), 0);
        due("3: one is at hand anew", x.literal(6), 1);
        due("3: of which one must be so", x.count(), 512);
        LearnedReasons z = withNames(8);
        for (int n = 0; n < 8; n++) due("3: one of each NAME", z.literal(2 * n), n + 1);
        due("3: an opposite is not the same again", z.literal(1), -4);
        due("3: the same again is", z.literal(0), 8);
        z.clause();
        due("3: the 8 stay as they were", z.count(), 255);
        LearnedReasons y = withNames(3);
        addClause(y, 0, 3);
        due("3: a LITERAL is of its NAME", y.count(), 6);
        y.assume(1);
        due("3: 2 n + 1 is false", y.known(1), 0);
    }

    private void promise4Clause() {
        LearnedReasons x = withNames(2);
        due("4: a number", addClause(x, 0, 2), 0);
        due("4: ROWS have numbers too", x.row(0), 1);
        due("4: the next", addClause(x, 1), 2);
        due("4: all are kept", x.count(), 1);
        due("4: at hand is an empty one", x.clause(), 3);
        due("4: which is never kept", x.count(), 0);
        x.drop(3);
        for (int t = 4; t < 60; t++) due("4: up to 60", addClause(x, 0, 2), t);
        keepLemma(x);
        x.literal(3);
        due("4: those dropped are counted", x.clause(), -4);
        due("4: refused, it leaves the CLAUSE at hand", x.literal(1), 2);
        due("4: and the LEMMAS", x.lemmas(), 1);
        LearnedReasons y = withNames(1);
        keepLemma(y);
        addClause(y, 0);
        due("4: a CLAUSE ends LEMMAS", y.lemmas(), 0);
        addClause(y, 0, 1);
        due("4: one with both is always kept", y.count(), 1);
    }

    private void promise5Row() {
        LearnedReasons x = withNames(1);
        due("5: above", x.row(201), -2);
        due("5: below", x.row(-201), -2);
        due("5: far above", x.row(MOST), -2);
        due("5: far below", x.row(LEAST), -2);
        keepLemma(x);
        due("5: most", x.row(200), 0);
        due("5: a ROW ends LEMMAS", x.lemmas(), 0);
        due("5: kept without WEIGHTS", x.count(), 2);
        due("5: least", x.row(-200), 1);
        due("5: not kept without WEIGHTS", x.count(), 0);
        due("5: a bound of 0", x.row(0), 2);
        x.drop(1);
        due("5: 0 is at most 0", x.count(), 2);
        for (int t = 3; t < 60; t++) due("5: up to 60", x.row(0), t);
        due("5: no room", x.row(0), -4);
        due("5: outside comes first", x.row(-201), -2);
    }

    private void promise6Weight() {
        LearnedReasons x = withNames(2);
        addClause(x, 0, 2);
        int row = x.row(0);
        due("6: a CLAUSE is no ROW", x.weight(0, 0, 1), -1);
        due("6: no such THING", x.weight(2, 0, 1), -1);
        due("6: none below 0", x.weight(-1, 0, 1), -1);
        due("6: nor far above", x.weight(row + 64, 0, 1), -1);
        due("6: nor there", x.weight(MOST, 0, 1), -1);
        due("6: no such NAME", x.weight(row, 2, 1), -1);
        due("6: nor below 0", x.weight(row, -1, 1), -1);
        due("6: nor far below", x.weight(row, LEAST, 1), -1);
        due("6: above", x.weight(row, 0, 21), -2);
        due("6: below", x.weight(row, 0, -21), -2);
        due("6: no such comes first", x.weight(row, 2, 21), -1);
        keepLemma(x);
        due("6: refused, it leaves", x.weight(row, 0, LEAST), -2);
        due("6: the LEMMAS", x.lemmas(), 1);
        due("6: most", x.weight(row, 0, 20), 1);
        due("6: it ends LEMMAS", x.lemmas(), 0);
        due("6: NAME 0 is too heavy", x.count(), 1);
        due("6: least", x.weight(row, 1, -20), 1);
        due("6: the sum is 0", x.count(), 2);
        due("6: less", x.weight(row, 0, 19), 1);
        due("6: it is a WEIGHT in place of the other", x.weight(row, 1, -18), 1);
        due("6: the sum is 1", x.count(), 1);
        x.drop(row);
        due("6: a ROW that was dropped is none", x.weight(row, 0, 1), -1);
    }

    private void promise7Drop() {
        LearnedReasons x = withNames(2);
        addClause(x, 0);
        addRow(x, -1, 0, -1);
        addClause(x, 1);
        due("7: no such THING", x.drop(3), -1);
        for (int t : new int[] {-1, LEAST, MOST, 64, 60, 63}) due("7: " + t, x.drop(t), -1);
        due("7: all stand", x.count(), 0);
        keepLemma(x);
        due("7: two are left", x.drop(0), 2);
        due("7: LEMMAS are no more", x.lemmas(), 0);
        due("7: the others stand", x.count(), 1);
        keepLemma(x);
        due("7: it is no more", x.drop(0), -1);
        due("7: refused, it leaves LEMMAS", x.lemmas(), 1);
        due("7: one is left", x.drop(1), 1);
        due("7: the ROW does not bind", x.count(), 2);
        due("7: none is left", x.drop(2), 0);
        due("7: all is free", x.count(), 4);
        due("7: a number does not come again", x.row(0), 3);
    }

    private void promise8Cost() {
        LearnedReasons x = withNames(2);
        due("8: no such NAME", x.cost(2, 1), -1);
        due("8: nor below 0", x.cost(-1, 1), -1);
        due("8: nor far below", x.cost(LEAST, 1), -1);
        due("8: above", x.cost(1, 51), -2);
        due("8: below", x.cost(1, -51), -2);
        due("8: far above", x.cost(1, MOST), -2);
        due("8: no such comes first", x.cost(2, 51), -1);
        due("8: nothing changed", x.best(), 0);
        keepLemma(x);
        due("8: least", x.cost(1, -50), 1);
        due("8: it leaves LEMMAS", x.lemmas(), 1);
        due("8: it costs", x.best(), -50);
        addClause(x, 0);
        due("8: most", x.cost(0, 50), 1);
        due("8: the sum", x.best(), 0);
        due("8: another", x.cost(0, 49), 1);
        due("8: the sum then", x.best(), -1);
    }

    private void promise9Clear() {
        LearnedReasons x = withNames(3);
        addClause(x, 0);
        addRow(x, -1, -1, 0, -1);
        x.cost(0, 7);
        keepLemma(x);
        x.assume(1);
        x.literal(2);
        due("9: it tells the NAMES", x.clear(), 3);
        due("9: there are none", x.clear(), 0);
        due("9: no LEMMAS", x.lemmas(), 0);
        due("9: none ASSUMED", x.forget(), 0);
        due("9: no THINGS", x.drop(0), -1);
        due("9: NAMES from 0", x.name(), 0);
        due("9: nothing at hand", x.literal(0), 1);
        due("9: THINGS from 0", x.clause(), 0);
        due("9: no COST", x.best(), 0);
        due("9: a ROW", x.row(-1), 1);
        x.drop(0);
        due("9: has no WEIGHTS", x.count(), 0);
        due("9: a CLAUSE was no ROW", x.weight(0, 0, 0), -1);
        LearnedReasons y = withNames(14);
        for (int t = 0; t < 60; t++) addRow(y, 0);
        due("9: full", y.clear(), 14);
        due("9: room for a THING", y.clause(), 0);
        due("9: room for a NAME", y.name(), 0);
        due("9: what was a ROW is a CLAUSE", y.weight(0, 0, 1), -1);
    }

    private void promise10Assume() {
        LearnedReasons x = withNames(2);
        due("10: one", x.assume(3), 1);
        due("10: the same", x.assume(3), 1);
        due("10: its opposite too", x.assume(2), 2);
        due("10: no such NAME", x.assume(4), -1);
        for (int l : new int[] {-1, LEAST, MOST, 64, 1 << 30}) due("10: " + l, x.assume(l), -1);
        due("10: another", x.assume(0), 3);
        due("10: both taken", x.conflict(), 1);
        LearnedReasons y = withNames(14);
        for (int l = 0; l < 28; l++) due("10: all", y.assume(l), l + 1);
        x.forget();
        x.assume(2);
        addClause(x, 3, 0);
        due("10: from now on", x.known(0), 1);
        due("10: the MODELS are not bound", x.count(), 3);
    }

    private void promise11Forget() {
        LearnedReasons x = withNames(2);
        x.assume(0);
        x.assume(1);
        x.assume(0);
        due("11: two were", x.forget(), 2);
        due("11: none is", x.forget(), 0);
        due("11: no CONFLICT is left", x.conflict(), 0);
        due("11: nothing is KNOWN", x.known(0), 2);
    }

    private void promise12Conflict() {
        LearnedReasons x = withNames(4);
        due("12: no THINGS", x.conflict(), 0);
        addClause(x, 0, 2);
        addClause(x, 0, 3);
        addClause(x, 1, 2);
        addClause(x, 1, 3);
        due("12: not AT ONCE, though there is no MODEL", x.conflict(), 0);
        due("12: there is none", x.search(), 0);
        x.assume(0);
        due("12: AT ONCE from one", x.conflict(), 1);
        x.forget();
        int row = addRow(x, 4, 0, 0, 3, 2);
        x.assume(4);
        due("12: the ROW bars NAME 3", x.known(3), 0);
        x.assume(6);
        due("12: the ROW is above", x.conflict(), 1);
        x.drop(row);
        due("12: not without it", x.conflict(), 0);
        addRow(x, -1);
        due("12: a ROW that none keeps", x.conflict(), 1);
        LearnedReasons y = withNames(1);
        y.clause();
        due("12: an empty CLAUSE", y.conflict(), 1);
        LearnedReasons z = withNames(1);
        tryLemma(z, 0, 1);
        addClause(z, 0);
        tryLemma(z, 0);
        z.assume(1);
        due("12: by THINGS", z.conflict(), 1);
    }

    private void promise13Known() {
        LearnedReasons x = withNames(5);
        addClause(x, 0, 2, 5);
        x.assume(1);
        x.assume(4);
        due("13: the last LITERAL", x.known(1), 1);
        due("13: what is taken", x.known(0), 0);
        due("13: not KNOWN", x.known(3), 2);
        due("13: no such NAME", x.known(5), -1);
        for (int n : new int[] {-1, LEAST, MOST, 32}) due("13: " + n, x.known(n), -1);
        addRow(x, 1, 0, 1, 0, 1, -1);
        due("13: m and it are the BOUND", x.known(3), 2);
        addRow(x, 0, 0, 2, 0, 1, -3);
        due("13: m less it is above the BOUND", x.known(4), 1);
        due("13: m and it are not above", x.known(3), 2);
        addRow(x, 3, 0, 1, 0, 3);
        due("13: m and it are above", x.known(3), 0);
        x.assume(6);
        due("13: a CONFLICT", x.known(0), -2);
        due("13: no such NAME comes first", x.known(5), -1);
        LearnedReasons y = withNames(14);
        for (int n = 0; n < 13; n++) addClause(y, 2 * n + 3, 2 * n);
        y.assume(26);
        for (int n = 0; n < 14; n++) due("13: all 14 by a chain", y.known(n), 1);
        y.forget();
        y.assume(1);
        for (int n = 0; n < 14; n++) due("13: and back", y.known(n), 0);
        y.forget();
        addClause(y, 26);
        for (int n = 0; n < 14; n++) due("13: from none, one after the other", y.known(n), 1);
        LearnedReasons z = withNames(2);
        addClause(z, 0, 2);
        addClause(z, 0, 3);
        due("13: a LEMMA", tryLemma(z, 0), 1);
        due("13: does not tell", z.known(0), 2);
    }

    private void promise14Lemma() {
        LearnedReasons x = withNames(3);
        due("14: nothing follows", tryLemma(x, 0), 0);
        due("14: it was none", x.lemmas(), 0);
        due("14: at hand is an empty one", x.literal(2), 1);
        due("14: and after both at once", tryLemma(x, 3), 1);
        addClause(x, 0, 2, 4);
        addClause(x, 0, 2, 5);
        addClause(x, 0, 3, 4);
        addClause(x, 0, 3, 5);
        due("14: not yet", tryLemma(x, 0), 0);
        due("14: a step", tryLemma(x, 0, 2), 1);
        due("14: by the LEMMAS before", tryLemma(x, 0), 1);
        due("14: still not from nothing", x.lemma(), 0);
        addClause(x, 1);
        due("14: the LEMMAS are gone", x.lemmas(), 0);
        due("14: without them it is none", x.lemma(), 0);
        due("14: a step again", tryLemma(x, 2), 1);
        due("14: the empty one is one", x.lemma(), 1);
        due("14: all are with it", tryLemma(x, 0, 2), 1);
        LearnedReasons y = withNames(2);
        addClause(y, 0, 2);
        for (int k = 0; k < 40; k++) due("14: 40 of them", tryLemma(y, 0, 2), 1);
        due("14: no more", tryLemma(y, 0, 2), -4);
        due("14: it stays at hand", y.literal(0), 2);
        due("14: 40 still", y.lemmas(), 40);
        due("14: the last change ends them", y.clause(), 1);
        due("14: then there is room", tryLemma(y, 0, 2), 1);
        LearnedReasons z = withNames(2);
        addRow(z, 1, 1, 1);
        z.assume(0);
        due("14: the ASSUMED are not taken", tryLemma(z, 3), 0);
        due("14: by a ROW", tryLemma(z, 1, 3), 1);
    }

    private void promise15Lemmas() {
        LearnedReasons x = withNames(2);
        for (int k = 0; k < 3; k++) {
            due("15: how many", x.lemmas(), k);
            keepLemma(x);
        }
        tryLemma(x, 0);
        x.assume(0);
        x.forget();
        x.cost(0, 3);
        x.search();
        x.best();
        x.core(0);
        x.literal(0);
        due("15: these end none", x.lemmas(), 3);
    }

    private void promise16Search() {
        LearnedReasons x = withNames(2);
        due("16: free", x.search(), 1);
        addClause(x, 0, 2);
        addClause(x, 0, 3);
        addClause(x, 1, 2);
        due("16: one is left", x.search(), 1);
        due("16: the same again", x.search(), 1);
        addClause(x, 1, 3);
        due("16: none is left", x.search(), 0);
        x.assume(0);
        x.drop(1);
        due("16: the ASSUMED do not bind", x.search(), 1);
        due("16: but what it tells is", x.value(0), 0);
    }

    private void promise17Value() {
        LearnedReasons x = withNames(3);
        addRow(x, -3, -1, -2, -2);
        due("17: false for NAME 0 if one does", x.value(0), 0);
        due("17: then", x.value(1), 1);
        due("17: then", x.value(2), 1);
        due("17: no such NAME", x.value(3), -1);
        for (int n : new int[] {-1, LEAST, MOST, 32}) due("17: " + n, x.value(n), -1);
        x.cost(1, 50);
        due("17: COST does not tell", x.value(1), 1);
        addClause(x, 3);
        due("17: a change tells anew", x.value(0), 1);
        due("17: false then", x.value(1), 0);
        x.clause();
        due("17: no MODEL", x.value(0), -3);
        due("17: no such NAME comes first", x.value(3), -1);
    }

    private void promise18Told() {
        LearnedReasons x = withNames(3);
        due("18: without a search before", x.told(1), 3);
        due("18: no CONFLICTS", x.told(0), 0);
        due("18: none LEARNED", x.told(2), 0);
        for (int what : new int[] {-1, 3, LEAST, MOST}) due("18: " + what, x.told(what), -2);
        addClause(x, 2, 4);
        addClause(x, 2, 5);
        addClause(x, 3, 4);
        due("18: CHOICES: NAME 0, NAME 1, NAME 0 anew", x.told(1), 3);
        due("18: one CONFLICT", x.told(0), 1);
        due("18: one LEARNED", x.told(2), 1);
        due("18: it has a MODEL", x.search(), 1);
        addClause(x, 3, 5);
        due("18: the last CONFLICT has no CHOICES", x.told(0), 2);
        due("18: it teaches nothing", x.told(2), 1);
        due("18: no CHOICE comes behind it", x.told(1), 2);
        x.clause();
        due("18: at the start", x.told(0), 1);
        due("18: no CHOICES then", x.told(1), 0);
        due("18: none LEARNED then", x.told(2), 0);
    }

    private void promise19Learned() {
        LearnedReasons x = withNames(4);
        addClause(x, 0, 4, 6);
        addClause(x, 0, 4, 7);
        addClause(x, 0, 5, 6);
        addClause(x, 0, 5, 7);
        // CHOICES 0, 1, 2: the REASON is 0 and 2; CHOICE 0 alone stays, and is the next REASON.
        due("19: LITERAL 0", x.learned(0, 0), 0);
        due("19: NAME 1 is left out of the REASON", x.learned(0, 1), 4);
        due("19: no more", x.learned(0, 2), -1);
        due("19: the next", x.learned(1, 0), 0);
        due("19: it has one", x.learned(1, 1), -1);
        due("19: no third", x.learned(2, 0), -1);
        due("19: two CONFLICTS", x.told(0), 2);
        due("19: NAME 0 is KNOWN, the others chosen", x.told(1), 6);
        for (int k : new int[] {-1, LEAST, MOST, 8192, 1 << 14}) {
            due("19: CLAUSE " + k, x.learned(k, 0), -1);
            due("19: place " + k, x.learned(0, k), -1);
        }
        addClause(x, 0);
        due("19: nothing is LEARNED then", x.learned(0, 0), -1);
    }

    /** NAMES 0 and 2 are a REASON, and so are 1 and 2: from the latest on, 1 is left out. */
    private void promise19ReasonFromTheLatest() {
        LearnedReasons x = withNames(4);
        addClause(x, 0, 4, 6);
        addClause(x, 0, 4, 7);
        addClause(x, 2, 4, 6);
        addClause(x, 2, 4, 7);
        due("19: the REASON's first", x.learned(0, 0), 0);
        due("19: and its last", x.learned(0, 1), 4);
        due("19: it has two", x.learned(0, 2), -1);
        due("19: no CONFLICT more", x.told(0), 1);
        due("19: CHOICES 0, 1, 2, then 1 and 3", x.told(1), 5);
    }

    /** The REASON is 1 and 2: CHOICE 0 has no part in it, but came before CHOICE 1, and stays. */
    private void promise19ChoicesThatStay() {
        LearnedReasons x = withNames(4);
        addClause(x, 2, 4, 6);
        addClause(x, 2, 4, 7);
        due("19: the REASON's first", x.learned(0, 0), 2);
        due("19: and its last", x.learned(0, 1), 4);
        due("19: one CONFLICT", x.told(0), 1);
        due("19: CHOICES 0, 1, 2, then 3", x.told(1), 4);
    }

    /** At least 7 of 14 are true, and at most 6: a search with as many CONFLICTS as 6 of 13. */
    private void promise19LearnedIsLong() {
        LearnedReasons x = withNames(14);
        addRow(x, 6, 1, 1, 1, 1, 1, 1, 1, 1, 1, 1, 1, 1, 1, 1);
        addRow(x, -7, -1, -1, -1, -1, -1, -1, -1, -1, -1, -1, -1, -1, -1, -1);
        due("19: CONFLICTS", x.told(0), 1716);
        due("19: LEARNED", x.told(2), 1715);
        due("19: no MODEL", x.search(), 0);
        // With 7 false the others must be true, and are too many.
        for (int i = 0; i < 7; i++) due("19: the first", x.learned(0, i), 2 * i);
        due("19: has no more", x.learned(0, 7), -1);
        for (int i = 0; i < 6; i++) due("19: the second", x.learned(1, i), 2 * i);
        due("19: its last", x.learned(1, 6), 14);
        // NAMES 0 to 4 are KNOWN to be true by then; with 5 as well no other may be.
        due("19: the last one", x.learned(1714, 0), 10);
        due("19: has one LITERAL", x.learned(1714, 1), -1);
        due("19: there is no more", x.learned(1715, 0), -1);
        due("19: both are needed", x.core(1), 1);
    }

    private void promise20Count() {
        LearnedReasons x = new LearnedReasons();
        for (int n = 0; n < 14; n++) {
            due("20: all", x.count(), 1 << n);
            x.name();
        }
        due("20: all of 14", x.count(), 16384);
        addRow(x, 7, 1, 1, 1, 1, 1, 1, 1, 1, 1, 1, 1, 1, 1, 1);
        due("20: at most 7", x.count(), 9908);
        addRow(x, -7, -1, -1, -1, -1, -1, -1, -1, -1, -1, -1, -1, -1, -1, -1);
        due("20: just 7", x.count(), 3432);
        addClause(x, 1);
        due("20: without NAME 0", x.count(), 1716);
        addClause(x, 0);
        due("20: none", x.count(), 0);
        x.drop(2);
        x.assume(3);
        due("20: with NAME 0", x.count(), 1716);
        LearnedReasons y = new LearnedReasons();
        y.row(-1);
        due("20: no NAMES, and a ROW that none keeps", y.count(), 0);
    }

    private void promise21Fixed() {
        LearnedReasons x = withNames(4);
        addClause(x, 0, 2);
        addClause(x, 0, 3);
        addClause(x, 1, 5);
        due("21: true in all", x.fixed(0), 1);
        due("21: neither", x.fixed(1), 2);
        due("21: false in all", x.fixed(2), 0);
        due("21: neither", x.fixed(3), 2);
        due("21: no such NAME", x.fixed(4), -1);
        for (int n : new int[] {-1, LEAST, MOST, 32}) due("21: " + n, x.fixed(n), -1);
        x.clause();
        due("21: no MODEL", x.fixed(3), -3);
        due("21: no such NAME comes first", x.fixed(4), -1);
    }

    private void promise22Best() {
        LearnedReasons x = withNames(14);
        for (int n = 0; n < 14; n++) x.cost(n, n % 2 == 0 ? -50 : 50);
        due("22: all that cost less than nothing", x.best(), -350);
        addRow(x, 0, 1, 0, 1);
        due("22: without two", x.best(), -250);
        addClause(x, 2);
        due("22: with a dear one", x.best(), -200);
        LearnedReasons y = withNames(1);
        y.cost(0, -3);
        due("22: it looks like a refusal", y.best(), -3);
        addClause(y, 1);
        due("22: nothing", y.best(), 0);
        y.clause();
        due("22: no MODEL", y.best(), -3);
        LearnedReasons z = withNames(14);
        for (int n = 0; n < 14; n++) {
            z.cost(n, 50);
            addClause(z, 2 * n);
        }
        due("22: the dearest", z.best(), 700);
    }

    private void promise23BestValue() {
        LearnedReasons x = withNames(4);
        addRow(x, -2, -1, -1, -1, -1);
        x.cost(0, 1);
        x.cost(1, 1);
        x.cost(2, 1);
        x.cost(3, 2);
        due("23: the FIRST of the BEST is false for NAME 0", x.bestValue(0), 0);
        due("23: true for NAME 1", x.bestValue(1), 1);
        due("23: true for NAME 2", x.bestValue(2), 1);
        due("23: false for the dear one", x.bestValue(3), 0);
        due("23: the FIRST of all is another", x.value(1), 0);
        x.cost(0, -1);
        due("23: COST tells anew", x.bestValue(0), 1);
        due("23: of these the FIRST", x.bestValue(1), 0);
        due("23: no such NAME", x.bestValue(4), -1);
        for (int n : new int[] {-1, LEAST, MOST, 32}) due("23: " + n, x.bestValue(n), -1);
        x.clause();
        due("23: no MODEL", x.bestValue(0), -3);
        due("23: no such NAME comes first", x.bestValue(4), -1);
    }

    private void promise24Core() {
        LearnedReasons x = withNames(3);
        due("24: a MODEL", x.core(0), -2);
        due("24: a MODEL, and no such place", x.core(-1), -2);
        addClause(x, 0, 2);
        addClause(x, 4);
        addClause(x, 1);
        addRow(x, -1, 0, 1);
        addRow(x, 0, 1, 1);
        due("24: the ROW that bars alone", x.core(0), 3);
        due("24: no other", x.core(1), -1);
        x.drop(3);
        due("24: one of NAMES 0 and 1", x.core(0), 0);
        due("24: and neither of them", x.core(1), 4);
        due("24: NAME 2 has no part, nor has the CLAUSE between", x.core(2), -1);
        addClause(x, 0);
        due("24: the later ones go first", x.core(1), 4);
        for (int k : new int[] {-1, 2, LEAST, MOST, 60}) due("24: " + k, x.core(k), -1);
        LearnedReasons y = withNames(1);
        for (int t = 0; t < 59; t++) y.row(0);
        due("24: the last THING", y.clause(), 59);
        due("24: is the core", y.core(0), 59);
        due("24: alone", y.core(1), -1);
        y.drop(59);
        due("24: there is a MODEL then", y.core(0), -2);
        LearnedReasons z = new LearnedReasons();
        z.clause();
        z.clause();
        due("24: of two that bar alone the lesser stays", z.core(0), 0);
        due("24: and no more", z.core(1), -1);
        z.drop(0);
        due("24: then the other", z.core(0), 1);
    }
}
