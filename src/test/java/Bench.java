/**
 * A small built object for the tests of edits, with what it must tell. Each call is followed by
 * makes or isRefused, which look at the answer, at the tokens of all units and at all build
 * results: those of the build must stay, whatever is edited.
 */
final class Bench {
    static final int U = 3;
    static final int T = 8;
    static final int N = 5;
    /** The words of the kinds 1 to 9, each with value 4 where the kind has a value. */
    static final String[] WORDS = {"4", "e", "+", "-", "*", "(", ")", "=", ";"};
    static final int[] OUTSIDE_UNITS = {Check.MIN, -8, -1, U, U + 1, 7, 8, 32, Check.MAX};
    static final int[] OUTSIDE_KINDS = {Check.MIN, -9, -1, 0, 10, 11, Check.MAX};
    static final int[] OUTSIDE_NAMES = {Check.MIN, -16, -1, N, N + 1, 15, 16, 32, Check.MAX};

    private final Check check;
    private final NameHashBuilder x;
    private final String[] texts = {"a = 1 ;", "b = a + 7 ;", "c = d ;"};
    private final String results;
    private String call;
    private int editedUnit;
    private boolean answer;

    /** Unit 1 holds [b = a + 7 ;], six of eight tokens. */
    Bench(Check check) {
        this.check = check;
        x = check.object(U, T, N);
        for (int unit = 0; unit < U; unit++) {
            check.fill(x, unit, texts[unit]);
        }
        check.due("build()", x.build(), 3);
        results = Check.results(x);
    }

    /** As the other one, and after the build unit 1 is filled with this text. */
    Bench(Check check, String middle) {
        this(check);
        check.fill(x, 1, middle);
        texts[1] = middle;
    }

    Bench append(int unit, int kind, int value) {
        return called("append(" + unit + ", " + kind + ", " + value + ")", unit, x.append(unit, kind, value));
    }

    Bench setToken(int unit, int index, int kind, int value) {
        String made = "setToken(" + unit + ", " + index + ", " + kind + ", " + value + ")";
        return called(made, unit, x.setToken(unit, index, kind, value));
    }

    Bench insertToken(int unit, int index, int kind, int value) {
        String made = "insertToken(" + unit + ", " + index + ", " + kind + ", " + value + ")";
        return called(made, unit, x.insertToken(unit, index, kind, value));
    }

    Bench deleteToken(int unit, int index) {
        return called("deleteToken(" + unit + ", " + index + ")", unit, x.deleteToken(unit, index));
    }

    Bench clearUnit(int unit) {
        return called("clearUnit(" + unit + ")", unit, x.clearUnit(unit));
    }

    private Bench called(String made, int unit, boolean answered) {
        call = made;
        editedUnit = unit;
        answer = answered;
        return this;
    }

    /** The call answered true and left this text in its unit, and nothing else moved. */
    void makes(String text) {
        check.due(call, answer, true);
        texts[editedUnit] = text;
        dueState();
    }

    void isRefused() {
        check.due(call, answer, false);
        dueState();
    }

    private void dueState() {
        for (int unit = 0; unit < U; unit++) {
            check.dueTokens("after " + call, x, unit, texts[unit]);
        }
        check.same("build results after " + call, Check.results(x), results);
    }

    /** What the next build finds is what a new object with the due tokens gives. */
    void dueNextBuild() {
        NameHashBuilder fresh = new NameHashBuilder(U, T, N);
        for (int unit = 0; unit < U; unit++) {
            check.fill(fresh, unit, texts[unit]);
        }
        fresh.build();
        x.build();
        check.same("the next build", Check.meaning(x), Check.meaning(fresh));
        check.same("the tokens then", Check.tokens(x), Check.tokens(fresh));
    }
}
