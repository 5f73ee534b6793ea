import java.util.StringJoiner;

/**
 * Calls that ask an object for all that it holds, one after the other, and at last take it apart.
 * Two states whose answers are the same, with two LITERALS to begin with, are the same, as far as
 * calls can tell.
 */
final class Later {
    private static final int NAMES = 14;
    private static final int LITERALS = 28;
    private static final int THINGS = 60;

    private final LearnedReasons x;
    private final StringJoiner told = new StringJoiner(" ");
    private int made;

    private Later(LearnedReasons x) {
        this.x = x;
    }

    /** Whether the LITERAL to begin with was there cannot be told from how many there are then. */
    static String answers(LearnedReasons x, int firstLiteral) {
        Later later = new Later(x);
        later.askAll();
        later.takeApart(firstLiteral);
        return later.told.toString();
    }

    /** How many calls it takes at most, so that a test can stay within the 512 of an object. */
    static int calls() {
        Later later = new Later(Due.withNames(NAMES));
        later.askAll();
        later.takeApart(0);
        return later.made;
    }

    private int tell(int answer) {
        made++;
        told.add(Integer.toString(answer));
        return answer;
    }

    private void askAll() {
        tell(x.lemmas());
        tell(x.conflict());
        tell(x.search());
        for (int what = 0; what < 3; what++) tell(x.told(what));
        for (int k = 0; k < 3; k++) for (int i = 0; i < 3; i++) tell(x.learned(k, i));
        tell(x.count());
        tell(x.best());
        for (int k = 0; k < 3; k++) tell(x.core(k));
        for (int n = 0; n < NAMES; n++) {
            tell(x.known(n));
            tell(x.value(n));
            tell(x.fixed(n));
            tell(x.bestValue(n));
        }
    }

    private void takeApart(int firstLiteral) {
        for (int i = 0; i < LITERALS; i++) {
            int l = (firstLiteral + i) % LITERALS;
            tell(x.assume(l));
            tell(x.literal(l));
        }
        tell(x.lemma());
        tell(x.forget());
        for (int t = 0; t < THINGS; t++) {
            // Whether it is a ROW; that it is changed is of no matter, as it goes next.
            tell(x.weight(t, 0, 0));
            tell(x.drop(t));
            if (t < 12 || t % 12 == 0) tell(x.count());
        }
        tell(x.best());
        // With all NAMES true, all COSTS tell.
        for (int n = 0; n < NAMES; n++) if (tell(x.literal(2 * n)) > 0) tell(x.clause());
        tell(x.best());
        tell(x.row(0));
        tell(x.name());
        tell(x.clear());
    }
}
