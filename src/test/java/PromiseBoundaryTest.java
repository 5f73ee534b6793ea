import java.util.function.ToIntFunction;

/**
 * The sentences of promises 1 to 24 that name a boundary: each at the boundary, one below it and
 * one above it, and with what holds after a refusal. That refusals change nothing at all is held
 * by RefusalTest.
 */
public final class PromiseBoundaryTest extends Due {
    public static void main(String[] args) {
        PromiseBoundaryTest test = new PromiseBoundaryTest();
        test.promises1To9();
        test.promises10To15();
        test.promises16To19();
        test.promises20To24();
        test.check.end();
    }

    private void promises1To9() {
        promise1NoNames();
        promise1NoThings();
        promise1NoClauseAtHand();
        promise1NothingIsShared();
        promise2NoRoom();
        promise2LemmasAreNoMore();
        promise2LemmasStay();
        promise3AgainNothing();
        promise3NoSuchName();
        promise3ItHas8();
        promise4NoRoom();
        promise4AnEmptyOneIsAtHandThen();
        promise5Outside();
        promise5NoRoom();
        promise6NoSuchRow();
        promise6NoSuchName();
        promise6Outside();
        promise7NoSuchThing();
        promise7HowManyThereAre();
        promise8NoSuchName();
        promise8Outside();
        promise9NothingIsLeft();
        promise9HowManyNamesThereWere();
    }

    private void promises10To15() {
        promise10TheSameTwice();
        promise10NoSuchName();
        promise11NoneIsAssumed();
        promise12OneOrNone();
        promise13NoSuchName();
        promise13ThereIsAConflict();
        promise14ThereAre40();
        promise14NoneWhileThereAre40();
        promise14AnEmptyClause();
        promise14AnEmptyOneIsAtHandThen();
        promise15HowManyAreKept();
        promise15LemmasThatEnd();
    }

    private void promises16To19() {
        promise16NoNamesAndNoThings();
        promise16NoModel();
        promise17NoSuchName();
        promise17NoModel();
        promise18Outside();
        promise18NothingToTell();
        promise19NoSuchClause();
        promise19NoSuchPlace();
        promise19TheLastOfMany();
    }

    private void promises20To24() {
        promise20NoModel();
        promise20AllSets();
        promise21NoSuchName();
        promise21NoModel();
        promise21AllButOne();
        promise22ItMayLookLikeARefusal();
        promise22NoModel();
        promise23NoSuchName();
        promise23NoModel();
        promise24ThereIsAModel();
        promise24NoneSuch();
    }

    /** 1: "No NAMES". */
    private void promise1NoNames() {
        LearnedReasons x = new LearnedReasons();
        for (int l = 0; l < 2; l++) {
            due("1: no LITERAL " + l, x.literal(l), -1);
            due("1: none to assume", x.assume(l), -1);
        }
        due("1: no COST", x.cost(0, 0), -1);
        due("1: none KNOWN", x.known(0), -1);
        due("1: no value", x.value(0), -1);
        due("1: none fixed", x.fixed(0), -1);
        due("1: no best value", x.bestValue(0), -1);
        due("1: no WEIGHT", x.weight(x.row(0), 0, 0), -1);
        due("1: none to clear", x.clear(), 0);
    }

    /** 1: "no THINGS". */
    private void promise1NoThings() {
        LearnedReasons x = withNames(1);
        due("1: none to drop", x.drop(0), -1);
        due("1: no ROW", x.weight(0, 0, 0), -1);
        due("1: none bars", x.core(0), -2);
        due("1: none binds", x.count(), 2);
        due("1: the first number", x.row(0), 0);
        LearnedReasons y = new LearnedReasons();
        due("1: nor is there one to drop", y.drop(0), -1);
        due("1: the first number, of a CLAUSE", y.clause(), 0);
        due("1: there was none but it", y.drop(0), 0);
    }

    /** 1: "no CLAUSE at hand". */
    private void promise1NoClauseAtHand() {
        LearnedReasons x = withNames(1);
        due("1: nothing is at hand", x.literal(1), 1);
        LearnedReasons y = new LearnedReasons();
        due("1: the empty one is no LEMMA", y.lemma(), 0);
        due("1: as a THING it is never kept", y.clause() + y.count(), 0);
        due("1: and is a LEMMA then", y.lemma(), 1);
    }

    private void promise1NothingIsShared() {
        LearnedReasons x = States.FULL.made();
        check.that("1: a new one is new beside another in use",
            areAlike(States.NEW::make, y -> States.IN_USE.made()));
        due("1: and that one is as it was", x.clear(), 14);
    }

    /** 2: "-4". */
    private void promise2NoRoom() {
        LearnedReasons x = withNames(13);
        addRow(x, 0, times(13, 1));
        due("2: 13", x.count(), 1);
        due("2: the 14th", x.name(), 13);
        due("2: 14", x.count(), 2);
        keepLemma(x);
        x.literal(27);
        x.assume(26);
        due("2: a 15th", x.name(), -4);
        due("2: refused, LEMMAS stay", x.lemmas(), 1);
        due("2: and what is at hand", x.literal(26), 2);
        due("2: and the ASSUMED", x.forget(), 1);
        due("2: and THINGS", x.drop(0), 0);
        due("2: and NAMES", x.clear(), 14);
    }

    /** 2: "(LEMMAS are no more by this, and by each change of THINGS.)". */
    private void promise2LemmasAreNoMore() {
        ends("name", LearnedReasons::name);
        ends("clause", LearnedReasons::clause);
        ends("row", x -> x.row(0));
        ends("weight", x -> x.weight(1, 0, 2));
        ends("weight that is 0 again", x -> x.weight(1, 1, 0));
        ends("drop of a CLAUSE", x -> x.drop(0));
        ends("drop of a ROW", x -> x.drop(1));
        ends("clear", LearnedReasons::clear);
    }

    private void ends(String what, ToIntFunction<LearnedReasons> call) {
        LearnedReasons x = withTwoLemmas();
        check.that("2: it is not refused: " + what, call.applyAsInt(x) >= 0);
        due("2: LEMMAS are no more by " + what, x.lemmas(), 0);
        x.drop(0);
        x.clear();
        addNames(x, 2);
        due("2: nor do they tell later on", tryLemma(x, 0), 0);
    }

    /** NAME 0 is true, but not AT ONCE; with the first LEMMA that is a LEMMA too. */
    private static LearnedReasons withTwoLemmas() {
        LearnedReasons x = withNames(2);
        addClause(x, 0, 2);
        addRow(x, 1, 0, 1);
        addClause(x, 0, 3);
        tryLemma(x, 0);
        keepLemma(x);
        return x;
    }

    private void promise2LemmasStay() {
        stay("literal", x -> x.literal(0));
        stay("cost", x -> x.cost(0, 50));
        stay("assume", x -> x.assume(1));
        stay("forget", LearnedReasons::forget);
        stay("refused literal", x -> x.literal(4));
        stay("refused row", x -> x.row(201));
        stay("refused weight of a CLAUSE", x -> x.weight(0, 0, 1));
        stay("refused weight", x -> x.weight(1, 0, 21));
        stay("refused drop", x -> x.drop(3));
        stay("refused cost", x -> x.cost(0, 51));
        stay("a CLAUSE that is no LEMMA", x -> tryLemma(x, 1));
    }

    private void stay(String what, ToIntFunction<LearnedReasons> call) {
        LearnedReasons x = withTwoLemmas();
        call.applyAsInt(x);
        due("2: LEMMAS stay with " + what, x.lemmas(), 2);
    }

    /** 3: "(again: nothing)": with 1, 7 and 8 at hand. */
    private void promise3AgainNothing() {
        LearnedReasons x = withNames(5);
        for (int l = 0; l < 8; l++) {
            due("3: one more", x.literal(l), l + 1);
            for (int again = 0; again <= l; again++) due("3: again", x.literal(again), l + 1);
        }
        due("3: they are a CLAUSE", x.clause(), 0);
        due("3: which is kept always", x.count(), 32);
        x.literal(9);
        x.literal(9);
        x.clause();
        due("3: one that came twice is one", x.known(4), 0);
        due("3: as a LEMMA too", tryLemma(x, 9, 9), 1);
    }

    /** 3: "-1 no such NAME". */
    private void promise3NoSuchName() {
        LearnedReasons x = withNames(4);
        due("3: the last one", x.literal(7), 1);
        for (int l : new int[] {8, 9, 28, 29, 32, 64, -1, -2, -8, LEAST, LEAST + 7, MOST - 1, MOST}) {
            due("3: no such NAME: " + l, x.literal(l), -1);
        }
        due("3: the one is at hand still", x.literal(7), 1);
        due("3: the first one", x.literal(0), 2);
        due("3: they are two", x.clause(), 0);
        due("3: no others", x.count(), 12);
        x.name();
        due("3: a NAME more has two more", x.literal(8), 1);
        due("3: and the other", x.literal(9), 2);
        due("3: and no third", x.literal(10), -1);
    }

    /** 3: "-4 it has 8". */
    private void promise3ItHas8() {
        LearnedReasons x = withNames(10);
        for (int n = 0; n < 7; n++) x.literal(2 * n + 1);
        due("3: the 8th", x.literal(15), 8);
        due("3: a 9th", x.literal(17), -4);
        due("3: another 9th", x.literal(19), -4);
        due("3: an opposite", x.literal(0), -4);
        due("3: one of the 8", x.literal(15), 8);
        due("3: no such NAME", x.literal(20), -1);
        due("3: none of the 8 went", x.clause() + x.count(), 1024 - 4);
        for (int n = 0; n < 8; n++) due("3: and none came", x.assume(2 * n), n + 1);
        due("3: all 8 are not so", x.conflict(), 1);
        due("3: an empty one has room", x.literal(17), 1);
    }

    /** 4: "-4". */
    private void promise4NoRoom() {
        LearnedReasons x = withNames(2);
        for (int t = 0; t < 58; t++) x.row(0);
        due("4: the 59th", addClause(x, 0, 2), 58);
        due("4: the 60th", addClause(x, 1, 3), 59);
        addLiterals(x, 1, 2);
        due("4: a 61st", x.clause(), -4);
        due("4: it binds nothing", x.count(), 2);
        due("4: it is at hand still", x.literal(1), 2);
        due("4: a LEMMA can be tried of it", x.lemma(), 0);
        due("4: nor the empty one", x.clause(), -4);
        due("4: it bars nothing", x.search(), 1);
        due("4: dropping makes no room", x.drop(0), 59);
        due("4: none", x.clause(), -4);
    }

    /** 4: "an empty one is at hand then". */
    private void promise4AnEmptyOneIsAtHandThen() {
        LearnedReasons x = withNames(4);
        addLiterals(x, 0, 1, 2, 3, 4, 5, 6, 7);
        due("4: 8 LITERALS", x.clause(), 0);
        due("4: none is at hand", x.literal(7), 1);
        due("4: one LITERAL", x.clause(), 1);
        due("4: NAME 3 is false", x.fixed(3), 0);
        due("4: the others are free", x.count(), 8);
        due("4: the empty one is a THING too", x.clause(), 2);
        due("4: never kept", x.count(), 0);
        due("4: an empty one again", x.clause(), 3);
        due("4: both bar", x.drop(2) + x.count(), 3);
        due("4: one literal of the next", x.literal(0), 1);
    }

    /** 5: "-2". */
    private void promise5Outside() {
        LearnedReasons x = withNames(1);
        keepLemma(x);
        for (int bound : new int[] {-201, 201, -202, 202, LEAST, LEAST + 1, MOST - 1, MOST}) {
            due("5: outside: " + bound, x.row(bound), -2);
        }
        due("5: LEMMAS stay", x.lemmas(), 1);
        due("5: all is free", x.count(), 2);
        int number = 0;
        for (int bound : new int[] {-200, -199, 199, 200}) {
            due("5: inside: " + bound, x.row(bound), number);
            number++;
        }
        due("5: below 0 bars", x.core(0), 0);
        x.drop(0);
        due("5: as does the next", x.core(0), 1);
        x.drop(1);
        due("5: the others do not", x.count(), 2);
    }

    /** 5: "-4". */
    private void promise5NoRoom() {
        LearnedReasons x = withNames(1);
        for (int t = 0; t < 58; t++) addClause(x, 0, 1);
        due("5: the 59th", x.row(0), 58);
        due("5: the 60th", x.row(0), 59);
        keepLemma(x);
        due("5: a 61st", x.row(-1), -4);
        due("5: it bars nothing", x.count(), 2);
        due("5: LEMMAS stay", x.lemmas(), 1);
        due("5: it is no ROW", x.weight(60, 0, 1), -1);
        due("5: the 60th is", x.weight(59, 0, 1), 1);
        due("5: with its WEIGHT", x.fixed(0), 0);
        due("5: outside comes before", x.row(201), -2);
        x.drop(59);
        due("5: dropping makes no room", x.row(0), -4);
    }

    /** 6: "-1 no such ROW". */
    private void promise6NoSuchRow() {
        LearnedReasons x = withNames(1);
        addClause(x, 0, 1);
        x.row(0);
        x.row(0);
        x.drop(1);
        keepLemma(x);
        due("6: a CLAUSE", x.weight(0, 0, 1), -1);
        due("6: one that was dropped", x.weight(1, 0, 1), -1);
        due("6: the next number", x.weight(3, 0, 1), -1);
        for (int row : new int[] {-1, -62, 59, 60, 63, 64, 66, LEAST, LEAST + 2, MOST}) {
            due("6: no THING " + row, x.weight(row, 0, 1), -1);
        }
        due("6: LEMMAS stay", x.lemmas(), 1);
        due("6: no WEIGHT came", x.count(), 2);
        due("6: the ROW", x.weight(2, 0, 1), 1);
        due("6: its WEIGHT came", x.count(), 1);
        x.clear();
        x.name();
        due("6: none behind clear", x.weight(2, 0, 1), -1);
    }

    /** 6: "-1 no such .. NAME". */
    private void promise6NoSuchName() {
        LearnedReasons x = withNames(2);
        x.row(0);
        x.row(0);
        for (int name : new int[] {-1, 2, 13, 14, 15, 32, LEAST, MOST}) {
            for (int row = 0; row < 2; row++) due("6: no NAME " + name, x.weight(row, name, 1), -1);
        }
        due("6: the last NAME", x.weight(0, 1, 1), 1);
        due("6: it is false", x.fixed(1), 0);
        due("6: none else weighs", x.fixed(0), 2);
        addNames(x, 12);
        due("6: nor do NAMES that came later", x.count(), 8192);
        due("6: the 14th", x.weight(1, 13, 1), 1);
        due("6: it is false then", x.fixed(13), 0);
        due("6: no 15th", x.weight(0, 14, 1), -1);
        due("6: nor was it the first of the next ROW", x.fixed(0), 2);
    }

    /** 6: "-2". */
    private void promise6Outside() {
        LearnedReasons x = withNames(1);
        int row = x.row(20);
        int next = x.row(-20);
        x.drop(next);
        for (int w : new int[] {-20, -19, 0, 19, 20}) {
            due("6: inside: " + w, x.weight(row, 0, w), 1);
            due("6: the sum is at most 20", x.count(), 2);
            for (int wrong : new int[] {-21, 21, LEAST, MOST}) {
                due("6: outside: " + wrong, x.weight(row, 0, wrong), -2);
                due("6: as before", x.count(), 2);
            }
        }
        keepLemma(x);
        due("6: refused", x.weight(row, 0, 21), -2);
        due("6: LEMMAS stay", x.lemmas(), 1);
    }

    /** 7: "-1". */
    private void promise7NoSuchThing() {
        LearnedReasons x = withNames(1);
        addClause(x, 0);
        addRow(x, 0, 1);
        due("7: before", x.count(), 0);
        for (int t : new int[] {-1, 2, 59, 60, 63, 64, 65, LEAST, LEAST + 1, MOST}) {
            due("7: no THING " + t, x.drop(t), -1);
        }
        due("7: both stand", x.core(1), 1);
        due("7: the last", x.drop(1), 1);
        keepLemma(x);
        due("7: again", x.drop(1), -1);
        due("7: LEMMAS stay", x.lemmas(), 1);
        due("7: the other binds", x.fixed(0), 1);
        due("7: the first", x.drop(0), 0);
        due("7: the first again", x.drop(0), -1);
        due("7: none binds", x.count(), 2);
        x.row(0);
        x.clear();
        due("7: none behind clear", x.drop(2), -1);
        due("7: nor the first", x.drop(0), -1);
    }

    /** 7: "how many there are": not how many there were, nor what was dropped. */
    private void promise7HowManyThereAre() {
        LearnedReasons x = new LearnedReasons();
        for (int t = 0; t < 60; t++) x.row(0);
        for (int t = 59; t > 0; t--) due("7: from 60 on", x.drop(t), t);
        due("7: the last one", x.drop(0), 0);
    }

    /** 8: "-1". */
    private void promise8NoSuchName() {
        LearnedReasons x = withNames(13);
        for (int name : new int[] {-1, 13, 14, 32, LEAST, MOST}) {
            due("8: no NAME " + name, x.cost(name, -1), -1);
        }
        due("8: nothing costs", x.best(), 0);
        due("8: the last one", x.cost(12, -1), 1);
        due("8: it does", x.best(), -1);
        x.name();
        due("8: a later NAME has none", x.bestValue(13), 0);
        due("8: nor changes what there is", x.best(), -1);
        due("8: it may have one", x.cost(13, -2), 1);
        due("8: both", x.best(), -3);
        due("8: no 15th", x.cost(14, -1), -1);
    }

    /** 8: "-2". */
    private void promise8Outside() {
        LearnedReasons x = withNames(1);
        addClause(x, 0);
        for (int v : new int[] {-50, -49, 0, 49, 50}) {
            due("8: inside: " + v, x.cost(0, v), 1);
            for (int wrong : new int[] {-51, 51, LEAST, MOST}) {
                due("8: outside: " + wrong, x.cost(0, wrong), -2);
                due("8: as before", x.best(), v);
            }
        }
    }

    /** 9: "No NAMES, THINGS, LEMMAS, ASSUMED, nothing at hand": all is as in a new object. */
    private void promise9NothingIsLeft() {
        for (States state : States.values()) {
            check.that("9: nothing is left of " + state, areAlike(States.NEW::make, x -> {
                state.make(x);
                x.clear();
            }));
            // The state with the fewest calls, so that all stay within the 512 of an object.
            check.that("9: nor behind it of " + state, areAlike(States.WITHOUT_MODEL::make, x -> {
                state.make(x);
                x.clear();
                States.WITHOUT_MODEL.make(x);
            }));
        }
    }

    /** 9: "how many NAMES there were": none to 14. */
    private void promise9HowManyNamesThereWere() {
        LearnedReasons x = new LearnedReasons();
        for (int names = 0; names <= 14; names++) {
            addNames(x, names);
            due("9: there were", x.clear(), names);
            due("9: there are none", x.clear(), 0);
        }
        addNames(x, 14);
        x.name();
        due("9: a refused one was none", x.clear(), 14);
    }

    /** 10: "(the same twice counts once)". */
    private void promise10TheSameTwice() {
        LearnedReasons x = withNames(14);
        due("10: one", x.assume(27), 1);
        due("10: the same", x.assume(27), 1);
        due("10: another", x.assume(0), 2);
        due("10: the first again", x.assume(27), 2);
        due("10: the opposite is not the same", x.assume(26), 3);
        for (int l = 0; l < 28; l++) x.assume(l);
        for (int l = 0; l < 28; l++) due("10: all 28 again", x.assume(l), 28);
        due("10: so many were", x.forget(), 28);
        due("10: the same after forget", x.assume(27), 1);
    }

    /** 10: "-1 no such NAME". */
    private void promise10NoSuchName() {
        LearnedReasons x = withNames(3);
        due("10: the last one", x.assume(5), 1);
        for (int l : new int[] {6, 7, 28, 32, 64, -1, -2, LEAST, LEAST + 5, MOST - 1, MOST}) {
            due("10: no such NAME: " + l, x.assume(l), -1);
        }
        due("10: as many as before", x.assume(5), 1);
        due("10: no CONFLICT", x.conflict(), 0);
        due("10: NAME 2 alone is told", x.known(2), 0);
        due("10: not NAME 0", x.known(0), 2);
        x.name();
        due("10: nor the next NAME", x.known(3), 2);
        due("10: which has LITERALS now", x.assume(6), 2);
    }

    /** 11: "None is ASSUMED". */
    private void promise11NoneIsAssumed() {
        LearnedReasons x = withNames(2);
        due("11: none was", x.forget(), 0);
        x.assume(0);
        due("11: one was", x.forget(), 1);
        due("11: none is", x.forget(), 0);
        due("11: NAME 0 is not KNOWN", x.known(0), 2);
        x.assume(0);
        x.assume(1);
        due("11: a CONFLICT", x.conflict(), 1);
        keepLemma(x);
        x.literal(2);
        due("11: two were", x.forget(), 2);
        due("11: no CONFLICT", x.conflict(), 0);
        due("11: LEMMAS stay", x.lemmas(), 1);
        due("11: what is at hand stays", x.literal(3), 2);
    }

    /** 12: "1 or 0", from none ASSUMED too. */
    private void promise12OneOrNone() {
        LearnedReasons x = new LearnedReasons();
        due("12: no NAMES, no THINGS, none ASSUMED", x.conflict(), 0);
        x.clause();
        due("12: a THING that is never kept", x.conflict(), 1);
        x.drop(0);
        due("12: which was dropped", x.conflict(), 0);
        addNames(x, 2);
        addClause(x, 0);
        due("12: none ASSUMED", x.conflict(), 0);
        x.assume(1);
        due("12: one that is not so", x.conflict(), 1);
        x.forget();
        x.assume(0);
        due("12: one that is so", x.conflict(), 0);
        tryLemma(x, 0);
        due("12: LEMMAS are not asked", x.conflict(), 0);
    }

    /** 13: "-1". */
    private void promise13NoSuchName() {
        LearnedReasons x = withNames(13);
        for (int name : new int[] {-1, 13, 14, 32, LEAST, MOST}) {
            due("13: no NAME " + name, x.known(name), -1);
        }
        for (int name = 0; name < 13; name++) due("13: a NAME", x.known(name), 2);
        due("13: a NAME more", x.name(), 13);
        due("13: is a NAME", x.known(13), 2);
        due("13: and the next is none", x.known(14), -1);
    }

    /** 13: "-2 there is a CONFLICT". */
    private void promise13ThereIsAConflict() {
        LearnedReasons x = withNames(3);
        addClause(x, 0, 2);
        x.assume(1);
        due("13: false", x.known(0), 0);
        due("13: true", x.known(1), 1);
        due("13: not KNOWN", x.known(2), 2);
        x.assume(3);
        for (int name = 0; name < 3; name++) due("13: a CONFLICT", x.known(name), -2);
        due("13: no such NAME comes before", x.known(3), -1);
        due("13: nor below 0", x.known(-1), -1);
        due("13: as many ASSUMED as before", x.forget(), 2);
        for (int name = 0; name < 3; name++) due("13: no CONFLICT", x.known(name), 2);
        x.clause();
        due("13: from none ASSUMED", x.known(0), -2);
    }

    /** 14: "-4 there are 40". */
    private void promise14ThereAre40() {
        LearnedReasons x = withNames(2);
        addClause(x, 0);
        for (int k = 0; k < 38; k++) tryLemma(x, 0);
        due("14: the 39th", tryLemma(x, 0, 3), 1);
        due("14: 39", x.lemmas(), 39);
        due("14: one that is none", tryLemma(x, 1), 0);
        due("14: still 39", x.lemmas(), 39);
        due("14: the 40th", tryLemma(x, 0, 2), 1);
        due("14: 40", x.lemmas(), 40);
        addLiterals(x, 0, 2, 3);
        due("14: a 41st", x.lemma(), -4);
        due("14: a 41st again", x.lemma(), -4);
        due("14: still 40", x.lemmas(), 40);
        due("14: it is at hand still", x.literal(0), 3);
        due("14: as a THING it ends them", x.clause(), 1);
        due("14: so there is room", tryLemma(x, 0), 1);
        due("14: for one and more", x.lemmas(), 1);
    }

    /** 14: "-4 there are 40" is said of no LEMMA alone, so it comes before "0 it is none". */
    private void promise14NoneWhileThereAre40() {
        LearnedReasons x = withNames(2);
        addClause(x, 0);
        for (int k = 0; k < 40; k++) tryLemma(x, 0);
        x.literal(1);
        due("14: one that is none, while there are 40", x.lemma(), -4);
        due("14: it is at hand still", x.literal(2), 2);
        due("14: 40", x.lemmas(), 40);
        x.drop(0);
        due("14: they are no more", x.lemmas(), 0);
        due("14: then it is none", x.lemma(), 0);
        due("14: and no more at hand", x.literal(2), 1);
    }

    /** 14: the CLAUSE at hand may be empty: then a CONFLICT from nothing makes it a LEMMA. */
    private void promise14AnEmptyClause() {
        LearnedReasons x = withNames(2);
        due("14: without THINGS the empty one is none", x.lemma(), 0);
        addRow(x, 1, 1, 1);
        addClause(x, 0);
        due("14: nor with a MODEL", x.lemma(), 0);
        addClause(x, 2);
        due("14: with a CONFLICT it is one", x.lemma(), 1);
        due("14: and then all are", tryLemma(x, 0), 1);
        due("14: two", x.lemmas(), 2);
        x.drop(0);
        due("14: they end", x.lemmas(), 0);
        due("14: and it is none", x.lemma(), 0);
        x.clear();
        addNames(x, 1);
        addClause(x, 0);
        addClause(x, 1);
        due("14: by CLAUSES that bar each other", x.lemma(), 1);
        due("14: LEMMAS make no CONFLICT of THINGS", x.drop(0) + x.conflict(), 1);
    }

    /** 14: "(an empty one is at hand then)": after 1 and after 0. */
    private void promise14AnEmptyOneIsAtHandThen() {
        LearnedReasons x = withNames(5);
        due("14: 8 LITERALS with opposites", tryLemma(x, 0, 1, 2, 3, 4, 5, 6, 7), 1);
        due("14: after 1 none is at hand", x.literal(8), 1);
        due("14: it alone is no LEMMA", x.lemma(), 0);
        due("14: after 0 none is at hand", x.literal(9), 1);
        due("14: so no opposite is there", x.lemma(), 0);
        due("14: the empty one as a THING", x.clause(), 0);
        due("14: is never kept", x.search(), 0);
    }

    /** 15: how many, from none to 40. */
    private void promise15HowManyAreKept() {
        LearnedReasons x = new LearnedReasons();
        due("15: none", x.lemmas(), 0);
        x.clause();
        for (int k = 0; k < 40; k++) {
            due("15: up to 39", x.lemmas(), k);
            due("15: one more", x.lemma(), 1);
        }
        due("15: 40", x.lemmas(), 40);
        due("15: no 41st", x.lemma(), -4);
        due("15: 40 still", x.lemmas(), 40);
    }

    private void promise15LemmasThatEnd() {
        LearnedReasons x = withTwoLemmas();
        due("15: two", x.lemmas(), 2);
        due("15: they end with a NAME", x.name(), 2);
        due("15: none", x.lemmas(), 0);
        due("15: none of them is used", tryLemma(x, 0, 4), 1);
        due("15: this one is the first", x.lemmas(), 1);
        x.clear();
        due("15: clear ends it", x.lemmas(), 0);
    }

    /** 16: without NAMES, without THINGS. */
    private void promise16NoNamesAndNoThings() {
        LearnedReasons x = new LearnedReasons();
        due("16: no NAMES, no THINGS", x.search(), 1);
        addNames(x, 14);
        due("16: no THINGS", x.search(), 1);
        x.clear();
        x.row(0);
        due("16: no NAMES, kept", x.search(), 1);
        x.clause();
        due("16: no NAMES, never kept", x.search(), 0);
        x.drop(1);
        due("16: which was dropped", x.search(), 1);
    }

    /** 16: one MODEL is one, and none is none. */
    private void promise16NoModel() {
        LearnedReasons x = withNames(14);
        for (int n = 0; n < 14; n++) addClause(x, 2 * n + n % 2);
        due("16: one MODEL", x.search(), 1);
        addClause(x, 1, 2, 5);
        due("16: none", x.search(), 0);
        due("16: none, again", x.search(), 0);
        x.drop(14);
        due("16: one again", x.search(), 1);
    }

    /** 17: "-1". */
    private void promise17NoSuchName() {
        LearnedReasons x = withNames(13);
        for (int name : new int[] {-1, 13, 14, 32, LEAST, MOST}) {
            due("17: no NAME " + name, x.value(name), -1);
        }
        due("17: the first", x.value(0), 0);
        due("17: the last", x.value(12), 0);
        addNames(x, 1);
        due("17: one more", x.value(13), 0);
        addClause(x, 26);
        due("17: which is true", x.value(13), 1);
        due("17: the next is none", x.value(14), -1);
    }

    /** 17: "-3". */
    private void promise17NoModel() {
        LearnedReasons x = withNames(2);
        addClause(x, 0);
        addClause(x, 1, 3);
        due("17: a MODEL", x.value(0), 1);
        addClause(x, 2);
        for (int name = 0; name < 2; name++) due("17: no MODEL", x.value(name), -3);
        due("17: no such NAME comes before", x.value(2), -1);
        due("17: nor below 0", x.value(-1), -1);
        x.drop(2);
        due("17: a MODEL again", x.value(1), 0);
    }

    /** 18: "-2": what is 0, 1 or 2. */
    private void promise18Outside() {
        LearnedReasons x = withNames(3);
        addClause(x, 2, 4);
        addClause(x, 2, 5);
        for (int what : new int[] {-1, 3, -2, 4, LEAST, LEAST + 1, LEAST + 2, MOST - 1, MOST}) {
            due("18: outside: " + what, x.told(what), -2);
        }
        due("18: CONFLICTS", x.told(0), 1);
        due("18: CHOICES", x.told(1), 4);
        due("18: LEARNED", x.told(2), 1);
        due("18: outside of a new object", new LearnedReasons().told(3), -2);
        x.clause();
        due("18: outside without a MODEL", x.told(3), -2);
        due("18: and below", x.told(-1), -2);
    }

    private void promise18NothingToTell() {
        LearnedReasons x = new LearnedReasons();
        for (int what = 0; what < 3; what++) due("18: no NAMES: " + what, x.told(what), 0);
        addNames(x, 14);
        due("18: no THINGS: no CONFLICTS", x.told(0), 0);
        due("18: a CHOICE for each", x.told(1), 14);
        due("18: none LEARNED", x.told(2), 0);
        x.clause();
        due("18: no MODEL: a CONFLICT", x.told(0), 1);
        due("18: no CHOICE", x.told(1), 0);
        due("18: and none LEARNED", x.told(2), 0);
    }

    /** 19: "-1", k too small or too large. */
    private void promise19NoSuchClause() {
        LearnedReasons x = withNames(4);
        due("19: none LEARNED", x.learned(0, 0), -1);
        addClause(x, 0, 4, 6);
        addClause(x, 0, 4, 7);
        addClause(x, 0, 5, 6);
        addClause(x, 0, 5, 7);
        due("19: the first", x.learned(0, 0), 0);
        due("19: the last", x.learned(1, 0), 0);
        for (int k : new int[] {-1, 2, 3, 40, 8191, 8192, LEAST, LEAST + 1, MOST}) {
            due("19: no CLAUSE " + k, x.learned(k, 0), -1);
            due("19: nor another place of it", x.learned(k, 1), -1);
        }
        due("19: none of the two wrong", x.learned(-1, -1), -1);
        x.drop(3);
        due("19: after a change there is one", x.learned(0, 1), 4);
        due("19: and no second", x.learned(1, 0), -1);
        due("19: which told counts too", x.told(2), 1);
        x.clear();
        due("19: none behind clear", x.learned(0, 0), -1);
    }

    /** 19: "-1", i too small or too large. */
    private void promise19NoSuchPlace() {
        LearnedReasons x = withNames(14);
        // With NAMES 0 to 6 false, NAME 13 would have to be true and false.
        addClause(x, 0, 2, 4, 6, 8, 10, 12, 26);
        addClause(x, 0, 2, 4, 6, 8, 10, 12, 27);
        for (int i = 0; i < 7; i++) due("19: LITERAL " + i, x.learned(0, i), 2 * i);
        for (int i : new int[] {-1, 7, 8, 13, 14, 59, 60, 64, LEAST, LEAST + 1, MOST}) {
            due("19: no place " + i, x.learned(0, i), -1);
        }
        due("19: one CLAUSE", x.told(2), 1);
    }

    /** 19: the greatest number of CLAUSES that a test of this project brings about. */
    private void promise19TheLastOfMany() {
        LearnedReasons x = withNames(14);
        addRow(x, 6, times(14, 1));
        addRow(x, -7, times(14, -1));
        int many = x.told(2);
        due("19: many", many, 1715);
        due("19: the last", x.learned(many - 1, 0), 10);
        due("19: one behind it", x.learned(many, 0), -1);
        due("19: one before the first", x.learned(-1, 0), -1);
    }

    /** 20: no MODEL. */
    private void promise20NoModel() {
        LearnedReasons x = withNames(14);
        for (int n = 0; n < 14; n++) addClause(x, 2 * n);
        due("20: one", x.count(), 1);
        addRow(x, 13, times(14, 1));
        due("20: none", x.count(), 0);
        x.weight(14, 13, 0);
        due("20: one again", x.count(), 1);
        x.drop(0);
        due("20: two", x.count(), 2);
    }

    /** 20: every set of true NAMES is a MODEL, of no NAMES up to 14; then all sets but a few. */
    private void promise20AllSets() {
        LearnedReasons x = new LearnedReasons();
        due("20: no NAMES", x.count(), 1);
        for (int n = 1; n <= 14; n++) {
            x.name();
            due("20: all of " + n, x.count(), 1 << n);
        }
        addRow(x, 200, times(10, 20));
        due("20: a ROW that bars none", x.count(), 16384);
        x.row(199);
        x.weight(1, 13, -20);
        for (int n = 0; n < 10; n++) x.weight(1, n, 20);
        due("20: one that bars all of ten without another", x.count(), 16384 - 8);
        addRow(x, 13, times(14, 1));
        due("20: and one that bars all together", x.count(), 16384 - 8 - 1);
    }

    /** 21: "-1". */
    private void promise21NoSuchName() {
        LearnedReasons x = withNames(13);
        for (int name : new int[] {-1, 13, 14, 32, LEAST, MOST}) {
            due("21: no NAME " + name, x.fixed(name), -1);
        }
        due("21: the first", x.fixed(0), 2);
        due("21: the last", x.fixed(12), 2);
        x.name();
        due("21: one more", x.fixed(13), 2);
        due("21: the next is none", x.fixed(14), -1);
    }

    /** 21: "-3". */
    private void promise21NoModel() {
        LearnedReasons x = withNames(2);
        addClause(x, 0);
        addClause(x, 3);
        due("21: one MODEL: true", x.fixed(0), 1);
        due("21: one MODEL: false", x.fixed(1), 0);
        addClause(x, 1, 2);
        for (int name = 0; name < 2; name++) due("21: no MODEL", x.fixed(name), -3);
        due("21: no such NAME comes before", x.fixed(2), -1);
        x.drop(2);
        due("21: as before", x.fixed(0), 1);
    }

    /** 21: all MODELS but one are not all. */
    private void promise21AllButOne() {
        LearnedReasons x = withNames(8);
        addLiterals(x, 0, 3, 5, 7, 9, 11, 13, 15);
        x.clause();
        due("21: true and false", x.fixed(0), 2);
        int row = addRow(x, 0, times(8, -1));
        x.weight(row, 0, 7);
        // NAME 0 is true with all others alone.
        due("21: two at least", x.fixed(0), 2);
        x.weight(row, 0, 8);
        due("21: false in all", x.fixed(0), 0);
        due("21: the others neither", x.fixed(1), 2);
        x.drop(row);
        addClause(x, 0);
        due("21: true in all", x.fixed(0), 1);
    }

    /** 22: "(It may look like a refusal.)". */
    private void promise22ItMayLookLikeARefusal() {
        LearnedReasons x = withNames(1);
        for (int v = -5; v <= 1; v++) {
            x.cost(0, v);
            due("22: the least cost", x.best(), Math.min(v, 0));
            due("22: there is a MODEL", x.bestValue(0), v < 0 ? 1 : 0);
        }
        LearnedReasons y = withNames(14);
        for (int n = 0; n < 14; n++) y.cost(n, -50);
        due("22: the least of all", y.best(), -700);
        for (int n = 0; n < 14; n++) {
            y.cost(n, 50);
            addClause(y, 2 * n);
        }
        due("22: the most of all", y.best(), 700);
    }

    /** 22: "-3 there is no MODEL". */
    private void promise22NoModel() {
        LearnedReasons x = withNames(2);
        x.cost(0, 4);
        addClause(x, 0);
        due("22: one that costs", x.best(), 4);
        addClause(x, 1);
        due("22: none", x.best(), -3);
        x.cost(0, 5);
        due("22: none still", x.best(), -3);
        x.drop(1);
        due("22: one again, with the new COST", x.best(), 5);
    }

    /** 23: "-1". */
    private void promise23NoSuchName() {
        LearnedReasons x = withNames(13);
        for (int name : new int[] {-1, 13, 14, 32, LEAST, MOST}) {
            due("23: no NAME " + name, x.bestValue(name), -1);
        }
        due("23: the first", x.bestValue(0), 0);
        x.cost(12, -1);
        due("23: the last", x.bestValue(12), 1);
        x.name();
        due("23: one more", x.bestValue(13), 0);
        x.cost(13, -50);
        due("23: which is cheap", x.bestValue(13), 1);
        due("23: the next is none", x.bestValue(14), -1);
    }

    /** 23: "-3". */
    private void promise23NoModel() {
        LearnedReasons x = withNames(2);
        x.cost(1, -3);
        addClause(x, 0, 2);
        due("23: a MODEL", x.bestValue(0), 0);
        due("23: the cheap one", x.bestValue(1), 1);
        x.clause();
        for (int name = 0; name < 2; name++) due("23: no MODEL", x.bestValue(name), -3);
        due("23: no such NAME comes before", x.bestValue(2), -1);
        x.drop(1);
        due("23: a MODEL again", x.bestValue(1), 1);
    }

    /** 24: "-2 there is a MODEL". */
    private void promise24ThereIsAModel() {
        LearnedReasons x = new LearnedReasons();
        for (int k : new int[] {-1, 0, 1, 59, 60, LEAST, MOST}) {
            due("24: no NAMES, no THINGS: " + k, x.core(k), -2);
        }
        addNames(x, 14);
        for (int n = 0; n < 14; n++) addClause(x, 2 * n);
        for (int k : new int[] {-1, 0, 13, 14}) due("24: one MODEL: " + k, x.core(k), -2);
        addRow(x, 0, 0, 1);
        due("24: none", x.core(0), 1);
        due("24: the ROW", x.core(1), 14);
        x.assume(0);
        x.drop(1);
        due("24: a MODEL again", x.core(0), -2);
        x.assume(1);
        due("24: the ASSUMED do not count", x.core(0), -2);
    }

    /** 24: "-1 there is none such": k too small and too large. */
    private void promise24NoneSuch() {
        LearnedReasons x = withNames(3);
        for (int n = 0; n < 3; n++) addClause(x, 2 * n);
        addRow(x, 2, 1, 1, 1);
        for (int k = 0; k < 4; k++) due("24: THING " + k, x.core(k), k);
        for (int k : new int[] {-1, -2, 4, 5, 59, 60, 63, 64, LEAST, LEAST + 1, MOST - 1, MOST}) {
            due("24: none such: " + k, x.core(k), -1);
        }
        for (int t = 4; t < 60; t++) x.row(-1);
        for (int k = 0; k < 4; k++) due("24: of 60 the least: " + k, x.core(k), k);
        due("24: no fifth of 60", x.core(4), -1);
        due("24: one goes", x.drop(3), 59);
        due("24: then the next", x.core(0), 4);
        due("24: alone", x.core(1), -1);
    }
}
