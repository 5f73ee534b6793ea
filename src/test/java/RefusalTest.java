import java.util.function.Consumer;
import java.util.function.ToIntFunction;

/**
 * "REFUSALS change nothing and answer, the first that fits." Each is made in states that are new,
 * in use, without a MODEL and full; what is asked behind it is answered as if it had not been made.
 * So it is with calls that only ask.
 */
public final class RefusalTest extends Due {
    /** Too small or too great for every NAME, LITERAL, THING, place, WEIGHT, BOUND and COST. */
    private static final int[] ENDS = {
        LEAST, LEAST + 1, -65536, -201, 201, 65536, 1 << 30, MOST - 1, MOST
    };

    public static void main(String[] args) {
        RefusalTest test = new RefusalTest();
        test.laterCallsTellStatesApart();
        test.allCallsAreWithin512();
        for (States state : States.values()) {
            test.endsOfInts(state);
            test.justOutside(state);
            test.questions(state);
        }
        test.noSuchComesBeforeOutside();
        test.noSuchComesBeforeNoModel();
        test.noSuchComesBeforeNoRoom();
        test.outsideComesBeforeNoRoom();
        test.aModelComesBeforeNoSuchPlace();
        test.noRoom();
        test.check.end();
    }

    private void refused(String what, States state, ToIntFunction<LearnedReasons> call, int want) {
        changesNothing(state + ": " + what, state::make, call, want);
    }

    /** A helper that saw no change would let every refusal pass. */
    private void laterCallsTellStatesApart() {
        States state = States.IN_USE;
        told("name", state, LearnedReasons::name);
        told("literal", state, x -> x.literal(2));
        told("clause", state, LearnedReasons::clause);
        told("row", state, x -> x.row(200));
        told("weight", state, x -> x.weight(2, 1, 3));
        told("weight of another ROW", state, x -> x.weight(5, 4, -2));
        told("drop", state, x -> x.drop(4));
        told("cost", state, x -> x.cost(0, 5));
        told("cost below 0", state, x -> x.cost(3, -6));
        told("clear", state, LearnedReasons::clear);
        told("assume", state, x -> x.assume(0));
        told("forget", state, LearnedReasons::forget);
        told("lemma", state, LearnedReasons::lemma);
        told("drop of the last", States.FULL, x -> x.drop(58));
        told("weight", States.FULL, x -> x.weight(0, 2, 3));
        told("cost", States.FULL, x -> x.cost(2, -4));
        told("forget", States.FULL_WITHOUT_MODEL, LearnedReasons::forget);
        told("drop", States.FULL_WITHOUT_MODEL, x -> x.drop(59));
        told("drop", States.WITHOUT_MODEL, x -> x.drop(4));
        told("lemma", States.WITHOUT_MODEL, x -> tryLemma(x, 0));
    }

    private void told(String what, States state, ToIntFunction<LearnedReasons> call) {
        Consumer<LearnedReasons> with = x -> {
            state.make(x);
            call.applyAsInt(x);
        };
        check.that(state + ": later calls tell of " + what, !areAlike(with, state::make));
    }

    /** The FULL states take the most calls, some 180; a refusal twice comes on top. */
    private void allCallsAreWithin512() {
        check.that("later calls are " + Later.calls(), Later.calls() <= 512 - 190 - 2);
    }

    private void endsOfInts(States state) {
        for (int end : ENDS) {
            numberOfNoName(state, end);
            refused("literal " + end, state, x -> x.literal(end), -1);
            refused("assume " + end, state, x -> x.assume(end), -1);
            numberOfNoThing(state, end);
            refused("row " + end, state, x -> x.row(end), -2);
            refused("told " + end, state, x -> x.told(end), -2);
            noSuchPlace(state, end);
            numberOutside(state, end);
        }
    }

    private void numberOfNoName(States state, int n) {
        refused("weight of NAME " + n, state, x -> x.weight(0, n, 1), -1);
        refused("cost " + n, state, x -> x.cost(n, 1), -1);
        refused("known " + n, state, x -> x.known(n), -1);
        refused("value " + n, state, x -> x.value(n), -1);
        refused("fixed " + n, state, x -> x.fixed(n), -1);
        refused("bestValue " + n, state, x -> x.bestValue(n), -1);
    }

    private void numberOfNoThing(States state, int t) {
        refused("weight of ROW " + t, state, x -> x.weight(t, 0, 1), -1);
        refused("drop " + t, state, x -> x.drop(t), -1);
    }

    private void noSuchPlace(States state, int place) {
        refused("learned CLAUSE " + place, state, x -> x.learned(place, 0), -1);
        refused("learned place " + place, state, x -> x.learned(0, place), -1);
        boolean isModel = state.made().count() > 0;
        refused("core " + place, state, x -> x.core(place), isModel ? -2 : -1);
    }

    private void numberOutside(States state, int v) {
        boolean isName = state != States.NEW;
        refused("cost of " + v, state, x -> x.cost(0, v), isName ? -2 : -1);
        int row = state == States.IN_USE ? 2 : state == States.WITHOUT_MODEL ? 4 : 0;
        refused("weight of " + v, state, x -> x.weight(row, 0, v), isName ? -2 : -1);
    }

    private void justOutside(States state) {
        int names = state.made().clear();
        for (int n : new int[] {-1, names}) numberOfNoName(state, n);
        for (int l : new int[] {-1, 2 * names, 2 * names + 1}) {
            refused("literal " + l, state, x -> x.literal(l), -1);
            refused("assume " + l, state, x -> x.assume(l), -1);
        }
        for (int t : new int[] {-1, 60, 61, 63, 64}) numberOfNoThing(state, t);
        for (int v : new int[] {-201, 201}) refused("row " + v, state, x -> x.row(v), -2);
        for (int what : new int[] {-1, 3}) refused("told " + what, state, x -> x.told(what), -2);
        noSuchPlace(state, -1);
        for (int v : new int[] {-51, 51}) numberOutside(state, v);
    }

    private void questions(States state) {
        int names = state.made().clear();
        for (int k = 0; k <= names; k++) asks(state, k);
        LearnedReasons y = state.made();
        refused("conflict", state, LearnedReasons::conflict, y.conflict());
        refused("lemmas", state, LearnedReasons::lemmas, y.lemmas());
        refused("search", state, LearnedReasons::search, y.search());
        refused("count", state, LearnedReasons::count, y.count());
        refused("best", state, LearnedReasons::best, y.best());
        for (int what = 0; what < 3; what++) {
            int w = what;
            refused("told " + w, state, x -> x.told(w), y.told(w));
        }
    }

    private void asks(States state, int k) {
        LearnedReasons y = state.made();
        refused("known " + k, state, x -> x.known(k), y.known(k));
        refused("value " + k, state, x -> x.value(k), y.value(k));
        refused("learned " + k, state, x -> x.learned(k, 0), y.learned(k, 0));
        refused("fixed " + k, state, x -> x.fixed(k), y.fixed(k));
        refused("bestValue " + k, state, x -> x.bestValue(k), y.bestValue(k));
        refused("core " + k, state, x -> x.core(k), y.core(k));
    }

    private void noSuchComesBeforeOutside() {
        States state = States.IN_USE;
        refused("weight: no ROW, WEIGHT outside", state, x -> x.weight(6, 0, 21), -1);
        refused("weight: a CLAUSE, WEIGHT outside", state, x -> x.weight(0, 0, 21), -1);
        refused("weight: dropped, WEIGHT outside", state, x -> x.weight(1, 0, -21), -1);
        refused("weight: no NAME, WEIGHT outside", state, x -> x.weight(2, 5, -21), -1);
        refused("weight: none of the three", state, x -> x.weight(-1, -1, LEAST), -1);
        refused("cost: no NAME, COST outside", state, x -> x.cost(5, 51), -1);
        refused("cost: no NAME below 0, COST outside", state, x -> x.cost(-1, -51), -1);
        refused("known: no NAME, and a CONFLICT", States.FULL_WITHOUT_MODEL, x -> x.known(14), -1);
        refused("known: a NAME, and a CONFLICT", States.FULL_WITHOUT_MODEL, x -> x.known(13), -2);
    }

    private void noSuchComesBeforeNoModel() {
        States state = States.WITHOUT_MODEL;
        for (int n : new int[] {-1, 4}) {
            refused("value: no NAME, no MODEL", state, x -> x.value(n), -1);
            refused("fixed: no NAME, no MODEL", state, x -> x.fixed(n), -1);
            refused("bestValue: no NAME, no MODEL", state, x -> x.bestValue(n), -1);
        }
        for (int n : new int[] {0, 3}) {
            refused("value: no MODEL", state, x -> x.value(n), -3);
            refused("fixed: no MODEL", state, x -> x.fixed(n), -3);
            refused("bestValue: no MODEL", state, x -> x.bestValue(n), -3);
        }
        refused("best: no MODEL", state, LearnedReasons::best, -3);
    }

    private void noSuchComesBeforeNoRoom() {
        refused("literal: no NAME, no room", States.FULL, x -> x.literal(28), -1);
        refused("literal: below 0, no room", States.FULL, x -> x.literal(-1), -1);
        refused("literal: no room", States.FULL, x -> x.literal(1), -4);
    }

    private void outsideComesBeforeNoRoom() {
        for (int bound : new int[] {-201, 201, LEAST, MOST}) {
            refused("row: outside, no room", States.FULL, x -> x.row(bound), -2);
        }
        for (int bound : new int[] {-200, 0, 200}) {
            refused("row: no room", States.FULL, x -> x.row(bound), -4);
        }
    }

    private void aModelComesBeforeNoSuchPlace() {
        for (int k : new int[] {-1, 0, 60}) refused("core: a MODEL", States.IN_USE, x -> x.core(k), -2);
        refused("core: no MODEL, no place", States.WITHOUT_MODEL, x -> x.core(-1), -1);
        refused("core: no MODEL, no place behind", States.WITHOUT_MODEL, x -> x.core(60), -1);
    }

    private void noRoom() {
        for (States state : new States[] {States.FULL, States.FULL_WITHOUT_MODEL}) {
            refused("name", state, LearnedReasons::name, -4);
            refused("clause", state, LearnedReasons::clause, -4);
            refused("row", state, x -> x.row(0), -4);
            refused("literal", state, x -> x.literal(25), -4);
            refused("lemma", state, LearnedReasons::lemma, -4);
        }
    }
}
