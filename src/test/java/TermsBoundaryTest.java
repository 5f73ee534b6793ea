/**
 * The sentences of 'What it is', and of 'Terms' on NAMES, THINGS, MODELS and COST, that name a
 * boundary: each at the boundary, one below it and one above it, and what holds after a refusal.
 */
public final class TermsBoundaryTest extends Due {
    public static void main(String[] args) {
        TermsBoundaryTest test = new TermsBoundaryTest();
        test.used512Times();
        test.namesAre14AtMost();
        test.literalsAreTwoOfEachName();
        test.thingsAre60AtMost();
        test.theLastRowOfAllNames();
        test.thingsThatWereDroppedAreCounted();
        test.aNumberDoesNotComeAgain();
        test.clausesHaveUpTo8Literals();
        test.aClauseIsKeptIfOneIsSo();
        test.aClauseWithoutAnyIsNeverKept();
        test.weightsAreMinus20To20();
        test.weightsAre0AtFirst();
        test.boundsAreMinus200To200();
        test.aRowIsKeptAtItsBound();
        test.costsAreMinus50To50();
        test.costsAre0AtFirst();
        test.theFirstOfSeveral();
        test.theBestOfSeveral();
        test.check.end();
    }

    /** "An object is used for at most 512 calls": so the 512th must answer as the first does. */
    private void used512Times() {
        LearnedReasons x = new LearnedReasons();
        for (int i = 0; i < 256; i++) {
            due("512 calls: " + 2 * i, x.name(), 0);
            due("512 calls: " + (2 * i + 1), x.clear(), 1);
        }
        LearnedReasons y = withNames(2);
        for (int i = 0; i < 509; i++) due("512 calls: the same LITERAL", y.literal(3), 1);
        due("512 calls: the 512th", y.clause(), 0);
        LearnedReasons z = withNames(3);
        addClause(z, 0, 2);
        int row = z.row(1);
        for (int i = 0; i < 252; i++) {
            due("512 calls: a WEIGHT", z.weight(row, 1, i % 3), 1);
            due("512 calls: what it bars", z.count(), i % 3 == 2 ? 2 : 6);
        }
        due("512 calls: the 512th, CHOICES", z.told(1), 1);
        // What is answered behind them is free, but that they end is not.
        for (int i = 0; i < 100; i++) {
            z.literal(i);
            z.clause();
            z.core(i);
        }
    }

    /** "NAMES are numbered 0, 1, .. (14 at most)". */
    private void namesAre14AtMost() {
        LearnedReasons x = new LearnedReasons();
        due("14 NAMES: none", x.count(), 1);
        due("14 NAMES: the first", x.name(), 0);
        for (int n = 1; n < 12; n++) x.name();
        due("14 NAMES: the 13th", x.name(), 12);
        due("14 NAMES: 13", x.count(), 8192);
        due("14 NAMES: no 14th yet", x.known(13), -1);
        due("14 NAMES: the 14th", x.name(), 13);
        due("14 NAMES: the 14th is there", x.known(13), 2);
        due("14 NAMES: a 15th", x.name(), -4);
        due("14 NAMES: a 15th again", x.name(), -4);
        due("14 NAMES: it is not there", x.known(14), -1);
        due("14 NAMES: nor has it LITERALS", x.assume(28), -1);
        due("14 NAMES: as many MODELS as of 14", x.count(), 16384);
        due("14 NAMES: so many there were", x.clear(), 14);
    }

    /** "LITERAL 2 n is that NAME n is true, 2 n + 1 that it is false." */
    private void literalsAreTwoOfEachName() {
        LearnedReasons x = new LearnedReasons();
        for (int n = 0; n < 14; n++) {
            due("LITERALS: before NAME " + n, x.literal(2 * n), -1);
            due("LITERALS: before NAME " + n, x.assume(2 * n), -1);
            x.name();
            due("LITERALS: true", addClause(x, n % 2 == 0 ? 2 * n : 2 * n + 1), n);
            due("LITERALS: one too great", x.literal(2 * n + 2), -1);
        }
        for (int n = 0; n < 14; n++) due("LITERALS: NAME " + n, x.known(n), 1 - n % 2);
        for (int n = 0; n < 14; n++) due("LITERALS: NAME " + n, x.fixed(n), 1 - n % 2);
        due("LITERALS: one MODEL", x.count(), 1);
        for (int l = 0; l < 28; l++) due("LITERALS: all 28", x.assume(l), l + 1);
        due("LITERALS: no 29th", x.assume(28), -1);
        due("LITERALS: none below 0", x.assume(-1), -1);
    }

    /** "THINGS are numbered 0, 1, .. (60 at most". */
    private void thingsAre60AtMost() {
        LearnedReasons x = withNames(1);
        for (int t = 0; t < 59; t++) due("60 THINGS: a CLAUSE", addClause(x, 0), t);
        LearnedReasons y = withNames(1);
        for (int t = 0; t < 59; t++) due("60 THINGS: a ROW", y.row(0), t);
        due("60 THINGS: the 60th, a ROW", addRow(x, -1, 1), 59);
        due("60 THINGS: it bars", x.core(0), 59);
        due("60 THINGS: the 60th, a CLAUSE", addClause(y, 0), 59);
        due("60 THINGS: it tells", y.value(0), 1);
        for (LearnedReasons z : new LearnedReasons[] {x, y}) {
            z.literal(1);
            due("60 THINGS: a 61st CLAUSE", z.clause(), -4);
            due("60 THINGS: a 61st ROW", z.row(-200), -4);
            due("60 THINGS: it is not there", z.drop(60), -1);
            due("60 THINGS: the CLAUSE is at hand still", z.literal(0), 2);
        }
        due("60 THINGS: no MODEL still", x.search(), 0);
        due("60 THINGS: a MODEL still", y.count(), 1);
        due("60 THINGS: so many are left", x.drop(59), 59);
        due("60 THINGS: and here", y.drop(0), 59);
    }

    /** Both bounds at once: the 60th THING is a ROW, and there are 14 NAMES. */
    private void theLastRowOfAllNames() {
        LearnedReasons x = withNames(14);
        for (int t = 0; t < 59; t++) x.row(0);
        due("the last ROW: its number", addRow(x, 1, times(14, 1)), 59);
        due("the last ROW: no CONFLICT", x.conflict(), 0);
        due("the last ROW: nothing is KNOWN", x.known(13), 2);
        x.assume(0);
        due("the last ROW: the last NAME is false", x.known(13), 0);
        x.assume(26);
        due("the last ROW: two are too many", x.conflict(), 1);
        due("the last ROW: a LEMMA", tryLemma(x, 1, 27), 1);
        due("the last ROW: none or one", x.count(), 15);
        due("the last ROW: the search", x.told(1), 14);
        due("the last ROW: a WEIGHT", x.weight(59, 13, -2), 1);
        due("the last ROW: with NAME 13 up to three more, else one", x.count(), 14 + 1 + 13 + 78 + 286);
        due("the last ROW: it goes", x.drop(59), 59);
        due("the last ROW: all again", x.count(), 16384);
    }

    /** ".. those that were dropped counted". */
    private void thingsThatWereDroppedAreCounted() {
        LearnedReasons x = withNames(1);
        for (int t = 0; t < 58; t++) {
            x.row(0);
            due("dropped: none is left", x.drop(t), 0);
        }
        due("dropped: the 59th", x.row(0), 58);
        due("dropped: it alone is there", x.drop(58), 0);
        due("dropped: the 60th", x.clause(), 59);
        due("dropped: it alone", x.drop(59), 0);
        due("dropped: no 61st CLAUSE, though there are none", x.clause(), -4);
        due("dropped: no 61st ROW", x.row(0), -4);
        due("dropped: none bars", x.count(), 2);
        due("dropped: clear ends that", x.clear(), 1);
        due("dropped: there is room then", x.row(0), 0);
    }

    /** ".. a number does not come again)". */
    private void aNumberDoesNotComeAgain() {
        LearnedReasons x = withNames(1);
        x.row(0);
        x.row(0);
        x.row(0);
        due("numbers: the last goes", x.drop(2), 2);
        due("numbers: the next is another", x.row(0), 3);
        due("numbers: the first goes", x.drop(0), 2);
        due("numbers: a CLAUSE has another", addClause(x, 0), 4);
        due("numbers: what was dropped is no THING", x.drop(0), -1);
        due("numbers: nor the other", x.drop(2), -1);
        due("numbers: nor a ROW", x.weight(2, 0, 1), -1);
        due("numbers: all go", x.drop(1) + x.drop(3) + x.drop(4), 3);
        due("numbers: still none comes again", x.clause(), 5);
        due("numbers: it is the only one", x.core(0), 5);
    }

    /** "CLAUSES, of up to 8 LITERALS". */
    private void clausesHaveUpTo8Literals() {
        LearnedReasons x = withNames(14);
        for (int n = 0; n < 7; n++) due("8 LITERALS: up to 7", x.literal(2 * n), n + 1);
        due("8 LITERALS: 7 of them", x.clause(), 0);
        due("8 LITERALS: bar one of 128", x.count(), 16384 - 128);
        x.drop(0);
        for (int n = 0; n < 8; n++) due("8 LITERALS: up to 8", x.literal(2 * n), n + 1);
        due("8 LITERALS: a 9th", x.literal(16), -4);
        due("8 LITERALS: an opposite is a 9th", x.literal(1), -4);
        due("8 LITERALS: no such NAME", x.literal(28), -1);
        due("8 LITERALS: the 8", x.clause(), 1);
        due("8 LITERALS: bar one of 256", x.count(), 16384 - 64);
        due("8 LITERALS: an empty one is at hand", x.literal(16), 1);
        for (int l = 0; l < 8; l++) x.assume(2 * l + 1);
        due("8 LITERALS: all not so", x.conflict(), 1);
        x.forget();
        for (int l = 1; l < 8; l++) x.assume(2 * l + 1);
        due("8 LITERALS: the last one", x.known(0), 1);
        due("8 LITERALS: not the 9th", x.known(8), 2);
    }

    /** "kept if one of them is so". */
    private void aClauseIsKeptIfOneIsSo() {
        LearnedReasons x = withNames(2);
        addClause(x, 0);
        due("kept: of one", x.count(), 2);
        x.drop(0);
        addClause(x, 1);
        due("kept: of one that is false", x.count(), 2);
        x.drop(1);
        addClause(x, 0, 3);
        due("kept: of two", x.count(), 3);
        addClause(x, 2, 3);
        due("kept: of both of a NAME always", x.count(), 3);
    }

    /** "without any it is never kept". */
    private void aClauseWithoutAnyIsNeverKept() {
        for (int names = 0; names <= 14; names += 7) {
            LearnedReasons x = withNames(names);
            due("empty: it is a THING", x.clause(), 0);
            due("empty: no MODELS", x.count(), 0);
            due("empty: no MODEL", x.search(), 0);
            due("empty: a CONFLICT", x.conflict(), 1);
            due("empty: it bars itself", x.core(0), 0);
            due("empty: nothing else does", x.core(1), -1);
            due("empty: no cost", x.best(), -3);
            due("empty: it goes", x.drop(0), 0);
            due("empty: all again", x.count(), 1 << names);
        }
    }

    /** "a WEIGHT for each NAME (-20 to 20". */
    private void weightsAreMinus20To20() {
        for (int w : new int[] {19, 20}) {
            LearnedReasons x = withNames(14);
            int high = x.row(w);
            int low = x.row(w - 1);
            for (int n : new int[] {0, 13}) {
                due("WEIGHT " + w, x.weight(high, n, w), 1);
                x.assume(2 * n);
                due("WEIGHT " + w + ": at the BOUND", x.conflict(), 0);
                due("WEIGHT " + w + ": in the other ROW", x.weight(low, n, w), 1);
                due("WEIGHT " + w + ": above the BOUND", x.conflict(), 1);
                due("WEIGHT of 0", x.weight(high, n, 0) + x.weight(low, n, 0), 2);
                x.forget();
            }
        }
        for (int w : new int[] {-20, -19}) {
            LearnedReasons x = withNames(1);
            x.weight(x.row(w), 0, w);
            due("WEIGHT " + w + ": true alone", x.known(0), 1);
            x.weight(x.row(w - 1), 0, w);
            due("WEIGHT " + w + ": not enough", x.conflict(), 1);
        }
        LearnedReasons y = withNames(1);
        int row = addRow(y, 20, 20);
        for (int w : new int[] {21, -21, LEAST, MOST}) {
            due("WEIGHT " + w, y.weight(row, 0, w), -2);
            due("WEIGHT " + w + ": both are free", y.count(), 2);
        }
        y.drop(row);
        row = addRow(y, -20, -20);
        for (int w : new int[] {21, -21, LEAST, MOST}) {
            due("WEIGHT " + w, y.weight(row, 0, w), -2);
            due("WEIGHT " + w + ": true alone", y.fixed(0), 1);
        }
    }

    /** ".. 0 at first)". */
    private void weightsAre0AtFirst() {
        LearnedReasons x = withNames(7);
        int row = x.row(0);
        due("WEIGHTS at first: all is kept", x.count(), 128);
        addNames(x, 7);
        due("WEIGHTS at first: of later NAMES too", x.count(), 16384);
        for (int n = 0; n < 14; n++) due("WEIGHTS at first: free", x.fixed(n), 2);
        for (int n = 0; n < 14; n++) x.weight(row, n, 20);
        x.drop(row);
        x.row(-1);
        due("WEIGHTS at first: of the next ROW, nothing is below 0", x.count(), 0);
        for (int n = 0; n < 14; n++) x.weight(1, n, -20);
        due("WEIGHTS at first: not then", x.count(), 16383);
        x.clear();
        addNames(x, 14);
        x.row(0);
        due("WEIGHTS at first: after clear none is above 0", x.count(), 16384);
        x.row(-1);
        due("WEIGHTS at first: nor below 0", x.count(), 0);
    }

    /** "a BOUND (-200 to 200)". */
    private void boundsAreMinus200To200() {
        LearnedReasons x = withNames(1);
        int number = 0;
        for (int bound : new int[] {-200, -199, 0, 199, 200}) {
            due("BOUND " + bound, x.row(bound), number);
            due("BOUND " + bound + ": kept by nothing", x.count(), bound < 0 ? 0 : 2);
            due("BOUND " + bound + ": goes", x.drop(number), 0);
            number++;
            for (int wrong : new int[] {-201, 201, LEAST, MOST}) {
                due("BOUND " + wrong, x.row(wrong), -2);
                due("BOUND " + wrong + ": bars nothing", x.count(), 2);
            }
        }
        due("BOUND: refusals took no number", x.row(0), number);
    }

    /** "kept if the WEIGHTS of all NAMES that are true sum to at most that." */
    private void aRowIsKeptAtItsBound() {
        rowOfTen("200 of 200", 200, 20, 20, 1024);
        rowOfTen("200 of 199", 199, 20, 20, 1023);
        rowOfTen("199 of 199", 199, 20, 19, 1024);
        rowOfTen("199 of 198", 198, 20, 19, 1023);
        rowOfTen("-200 of -200", -200, -20, -20, 1);
        rowOfTen("-199 of -200", -200, -20, -19, 0);
        rowOfTen("-199 of -199", -199, -20, -19, 1);
        rowOfTen("-200 of -199", -199, -20, -20, 1);
        rowOfTen("0 of -1", -1, 0, 0, 0);
        rowOfTen("0 of 0", 0, 0, 0, 1024);
        LearnedReasons x = withNames(14);
        addRow(x, 200, times(14, 20));
        due("kept: 10 of 14 at most", x.count(), 16384 - 364 - 91 - 14 - 1);
        addRow(x, -200, times(14, -20));
        due("kept: just 10 of 14", x.count(), 1001);
    }

    /** Nine NAMES with one WEIGHT, and a tenth with another. */
    private void rowOfTen(String what, int bound, int nine, int tenth, int models) {
        LearnedReasons x = withNames(10);
        int row = addRow(x, bound, times(9, nine));
        x.weight(row, 9, tenth);
        due("kept: " + what, x.count(), models);
        due("kept, by the search: " + what, x.search(), models > 0 ? 1 : 0);
    }

    /** "Each NAME has a COST (-50 to 50". */
    private void costsAreMinus50To50() {
        LearnedReasons x = withNames(14);
        for (int n : new int[] {0, 13}) {
            for (int v : new int[] {-50, -49, -1, 0, 1, 49, 50}) {
                due("COST " + v, x.cost(n, v), 1);
                due("COST " + v + ": the least", x.best(), Math.min(v, 0));
                due("COST " + v + ": taken if it is below 0", x.bestValue(n), v < 0 ? 1 : 0);
            }
            due("COST -7", x.cost(n, -7), 1);
            for (int wrong : new int[] {-51, 51, LEAST, MOST}) {
                due("COST " + wrong, x.cost(n, wrong), -2);
                due("COST " + wrong + ": as before", x.best(), -7);
            }
            due("COST 50", x.cost(n, 50), 1);
        }
        addClause(x, 0);
        addClause(x, 26);
        due("COST: two that are dear", x.best(), 100);
        for (int n = 0; n < 14; n++) x.cost(n, -50);
        due("COST: all that are cheap", x.best(), -700);
    }

    /** ".. 0 at first)". */
    private void costsAre0AtFirst() {
        LearnedReasons x = new LearnedReasons();
        due("COSTS at first: no NAMES", x.best(), 0);
        addNames(x, 14);
        due("COSTS at first: none is below 0", x.best(), 0);
        for (int n = 0; n < 14; n++) addClause(x, 2 * n);
        due("COSTS at first: none is above 0", x.best(), 0);
        x.cost(3, 9);
        due("COSTS: one is dear", x.best(), 9);
        x.clear();
        addNames(x, 14);
        for (int n = 0; n < 14; n++) addClause(x, 2 * n);
        due("COSTS at first: after clear", x.best(), 0);
    }

    /** "The FIRST of several tells false for NAME 0 if one of them does, of these for NAME 1". */
    private void theFirstOfSeveral() {
        LearnedReasons x = withNames(3);
        for (int n = 0; n < 3; n++) due("FIRST of all", x.value(n), 0);
        addClause(x, 0, 2, 4);
        due("FIRST: NAME 0 false", x.value(0), 0);
        due("FIRST: then NAME 1 false", x.value(1), 0);
        due("FIRST: then NAME 2 true", x.value(2), 1);
        addClause(x, 0, 2, 5);
        due("FIRST: NAME 0 false still", x.value(0), 0);
        due("FIRST: NAME 1 true then", x.value(1), 1);
        due("FIRST: NAME 2 false then", x.value(2), 0);
        addClause(x, 0);
        due("FIRST: none tells false for NAME 0", x.value(0), 1);
        due("FIRST: but for NAME 1", x.value(1), 0);
        addClause(x, 2);
        addClause(x, 4);
        for (int n = 0; n < 3; n++) due("FIRST of one alone", x.value(n), 1);
        x.clause();
        for (int n = 0; n < 3; n++) due("FIRST of none", x.value(n), -3);
    }

    /** "the BEST are the MODELS of the least cost": several, one, none. */
    private void theBestOfSeveral() {
        LearnedReasons x = withNames(3);
        addClause(x, 0, 2, 4);
        for (int n = 0; n < 3; n++) x.cost(n, 5);
        due("BEST: three that cost the same", x.best(), 5);
        for (int n = 0; n < 3; n++) due("BEST: the FIRST of three", x.bestValue(n), n / 2);
        x.cost(1, 4);
        for (int n = 0; n < 3; n++) due("BEST: one that costs less by one", x.bestValue(n), n % 2);
        x.cost(1, 6);
        for (int n = 0; n < 3; n++) due("BEST: the FIRST of two", x.bestValue(n), n / 2);
        x.cost(2, 6);
        for (int n = 0; n < 3; n++) due("BEST: another alone", x.bestValue(n), n == 0 ? 1 : 0);
        x.cost(0, 0);
        x.cost(1, 0);
        x.cost(2, 0);
        due("BEST: all cost nothing", x.best(), 0);
        for (int n = 0; n < 3; n++) due("BEST: the FIRST of all", x.bestValue(n), n / 2);
        x.clause();
        due("BEST: of none", x.best(), -3);
    }
}
