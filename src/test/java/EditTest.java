/** Promises 2 to 6, 8 and 9: the edits, what they refuse, and the tokens they leave. */
public final class EditTest {
    private static final int U = 3;
    private static final int T = 8;
    private static final int N = 5;
    private static final int[] OUTSIDE_UNITS = {Integer.MIN_VALUE, -1, U, 8, Integer.MAX_VALUE};
    private static final int[] OUTSIDE_KINDS = {Integer.MIN_VALUE, -1, 0, 10, Integer.MAX_VALUE};
    private static final int[] OUTSIDE_NAMES = {Integer.MIN_VALUE, -1, N, 16, Integer.MAX_VALUE};
    private static final String FIRST = "a = 1 ;";
    private static final String MIDDLE = "b = a + 7 ;";
    private static final String LAST = "c = d ;";

    private static final Check CHECK = new Check();

    public static void main(String[] args) {
        storedTokens();
        append();
        setToken();
        insertToken();
        deleteToken();
        clearUnit();
        refusals();
        fullUnit();
        fullObject();
        emptyUnit();
        outsideQueries();
        CHECK.end();
    }

    private static NameHashBuilder built() {
        NameHashBuilder x = new NameHashBuilder(U, T, N);
        CHECK.fill(x, 0, FIRST);
        CHECK.fill(x, 1, MIDDLE);
        CHECK.fill(x, 2, LAST);
        CHECK.due("build()", x.build(), 3);
        return x;
    }

    /** After an edit of unit 1 the other units and the build results are those of built(). */
    private static void dueMiddle(String when, NameHashBuilder x, String text) {
        CHECK.dueTokens(when, x, 0, FIRST);
        CHECK.dueTokens(when, x, 1, text);
        CHECK.dueTokens(when, x, 2, LAST);
        CHECK.same(when, Check.results(x, U, N),
                "-1/1:..... -1/1:u.... -1/1:...u. 0,1,1! 1,1,8! 2,2,0! -1,0,0 -1,0,0 ");
    }

    private static void storedTokens() {
        int[] values = {Integer.MIN_VALUE, -1, 0, 3, 4, 5, 55, Integer.MAX_VALUE};
        for (int kind = 1; kind <= 9; kind++) {
            for (int value : values) {
                boolean taken = kind != 2 || value >= 0 && value < N;
                int stored = kind <= 2 ? value : 0;
                storedToken(kind, value, taken, stored);
            }
        }
    }

    private static void storedToken(int kind, int value, boolean taken, int stored) {
        String token = " of (" + kind + ", " + value + ")";
        NameHashBuilder x = new NameHashBuilder(U, T, N);
        CHECK.due("append" + token, x.append(1, kind, value), taken);
        dueStored("append" + token, x, taken ? 1 : 0, taken ? kind : 0, taken ? stored : 0);
        x.clearUnit(1);
        x.append(1, 1, 77);
        CHECK.due("setToken" + token, x.setToken(1, 0, kind, value), taken);
        dueStored("setToken" + token, x, 1, taken ? kind : 1, taken ? stored : 77);
        x.clearUnit(1);
        x.append(1, 1, 77);
        CHECK.due("insertToken" + token, x.insertToken(1, 0, kind, value), taken);
        dueStored("insertToken" + token, x, taken ? 2 : 1, taken ? kind : 1, taken ? stored : 77);
    }

    private static void dueStored(String when, NameHashBuilder x, int length, int kind, int value) {
        CHECK.due(when + ": getLength", x.getLength(1), length);
        CHECK.due(when + ": getTokenKind", x.getTokenKind(1, 0), kind);
        CHECK.due(when + ": getTokenValue", x.getTokenValue(1, 0), value);
    }

    private static void append() {
        NameHashBuilder x = built();
        CHECK.due("append", x.append(1, 2, 4), true);
        dueMiddle("append", x, "b = a + 7 ; e");
        CHECK.due("append", x.append(1, 1, -9), true);
        dueMiddle("append up to T", x, "b = a + 7 ; e -9");
    }

    private static void setToken() {
        NameHashBuilder x = built();
        CHECK.due("setToken first", x.setToken(1, 0, 2, 3), true);
        dueMiddle("setToken first", x, "d = a + 7 ;");
        CHECK.due("setToken inner", x.setToken(1, 3, 5, 9), true);
        dueMiddle("setToken inner", x, "d = a * 7 ;");
        CHECK.due("setToken last", x.setToken(1, 5, 1, -3), true);
        dueMiddle("setToken last", x, "d = a * 7 -3");
        CHECK.due("setToken at length", x.setToken(1, 6, 1, 1), false);
        CHECK.due("setToken at -1", x.setToken(1, -1, 1, 1), false);
        dueMiddle("setToken refused", x, "d = a * 7 -3");
    }

    private static void insertToken() {
        NameHashBuilder x = built();
        CHECK.due("insertToken inner", x.insertToken(1, 2, 4, 6), true);
        dueMiddle("insertToken inner", x, "b = - a + 7 ;");
        CHECK.due("insertToken past the end", x.insertToken(1, 8, 1, 1), false);
        CHECK.due("insertToken at -1", x.insertToken(1, -1, 1, 1), false);
        dueMiddle("insertToken refused", x, "b = - a + 7 ;");
        CHECK.due("insertToken at the end", x.insertToken(1, 7, 2, 4), true);
        dueMiddle("insertToken at the end", x, "b = - a + 7 ; e");
        CHECK.due("deleteToken", x.deleteToken(1, 7), true);
        CHECK.due("insertToken first", x.insertToken(1, 0, 1, 5), true);
        dueMiddle("insertToken first", x, "5 b = - a + 7 ;");
    }

    private static void deleteToken() {
        NameHashBuilder x = built();
        CHECK.due("deleteToken at length", x.deleteToken(1, 6), false);
        CHECK.due("deleteToken at -1", x.deleteToken(1, -1), false);
        dueMiddle("deleteToken refused", x, MIDDLE);
        CHECK.due("deleteToken inner", x.deleteToken(1, 2), true);
        dueMiddle("deleteToken inner", x, "b = + 7 ;");
        CHECK.due("deleteToken last", x.deleteToken(1, 4), true);
        dueMiddle("deleteToken last", x, "b = + 7");
        CHECK.due("deleteToken first", x.deleteToken(1, 0), true);
        dueMiddle("deleteToken first", x, "= + 7");
        CHECK.due("append after deleteToken", x.append(1, 9, 0), true);
        dueMiddle("append after deleteToken", x, "= + 7 ;");
    }

    private static void clearUnit() {
        NameHashBuilder x = built();
        CHECK.due("clearUnit", x.clearUnit(1), true);
        dueMiddle("clearUnit", x, "");
        CHECK.due("clearUnit again", x.clearUnit(1), true);
        dueMiddle("clearUnit again", x, "");
        CHECK.due("append after clearUnit", x.append(1, 1, 3), true);
        dueMiddle("append after clearUnit", x, "3");
    }

    private static void refusals() {
        NameHashBuilder x = built();
        for (int unit : OUTSIDE_UNITS) {
            CHECK.due("append to unit " + unit, x.append(unit, 1, 1), false);
            CHECK.due("setToken in unit " + unit, x.setToken(unit, 0, 1, 1), false);
            CHECK.due("insertToken in unit " + unit, x.insertToken(unit, 0, 1, 1), false);
            CHECK.due("deleteToken in unit " + unit, x.deleteToken(unit, 0), false);
            CHECK.due("clearUnit(" + unit + ")", x.clearUnit(unit), false);
        }
        for (int kind : OUTSIDE_KINDS) {
            CHECK.due("append of kind " + kind, x.append(1, kind, 0), false);
            CHECK.due("setToken of kind " + kind, x.setToken(1, 0, kind, 0), false);
            CHECK.due("insertToken of kind " + kind, x.insertToken(1, 0, kind, 0), false);
        }
        for (int name : OUTSIDE_NAMES) {
            CHECK.due("append of name " + name, x.append(1, 2, name), false);
            CHECK.due("setToken of name " + name, x.setToken(1, 0, 2, name), false);
            CHECK.due("insertToken of name " + name, x.insertToken(1, 0, 2, name), false);
        }
        int[] farIndexes = {Integer.MIN_VALUE, -32, 31, 32, 256, Integer.MAX_VALUE};
        for (int index : farIndexes) {
            CHECK.due("setToken at " + index, x.setToken(1, index, 1, 1), false);
            CHECK.due("insertToken at " + index, x.insertToken(1, index, 1, 1), false);
            CHECK.due("deleteToken at " + index, x.deleteToken(1, index), false);
        }
        dueMiddle("refused calls", x, MIDDLE);
    }

    private static void fullUnit() {
        NameHashBuilder x = built();
        String full = "b = a + 7 ; e 4";
        CHECK.fill(x, 1, full);
        CHECK.due("append to a full unit", x.append(1, 1, 1), false);
        for (int index = -1; index <= T + 1; index++) {
            CHECK.due("insertToken in a full unit at " + index, x.insertToken(1, index, 1, 1), false);
        }
        dueMiddle("a full unit", x, full);
        CHECK.due("setToken in a full unit", x.setToken(1, T - 1, 1, 6), true);
        dueMiddle("setToken in a full unit", x, "b = a + 7 ; e 6");
        CHECK.due("deleteToken in a full unit", x.deleteToken(1, 0), true);
        dueMiddle("deleteToken in a full unit", x, "= a + 7 ; e 6");
        CHECK.due("insertToken below T", x.insertToken(1, 0, 7, 0), true);
        dueMiddle("insertToken below T", x, ") = a + 7 ; e 6");
    }

    /** All units full at the greatest sizes: an edit reaches neither the next unit nor past the last. */
    private static void fullObject() {
        NameHashBuilder x = new NameHashBuilder(8, 32, 16);
        for (int unit = 0; unit < 8; unit++) {
            CHECK.fill(x, unit, (unit + " p ").repeat(16));
        }
        for (int unit = 0; unit < 8; unit++) {
            CHECK.due("append to full unit " + unit, x.append(unit, 1, 1), false);
            CHECK.due("insertToken in full unit " + unit, x.insertToken(unit, 32, 1, 1), false);
            CHECK.due("deleteToken in full unit " + unit, x.deleteToken(unit, 0), true);
            CHECK.dueTokens("deleteToken", x, unit, "p " + (unit + " p ").repeat(15));
            CHECK.due("insertToken in unit " + unit, x.insertToken(unit, 0, 9, 3), true);
            CHECK.dueTokens("insertToken", x, unit, "; p " + (unit + " p ").repeat(15));
        }
        for (int unit = 0; unit < 8; unit++) {
            CHECK.dueTokens("all edited", x, unit, "; p " + (unit + " p ").repeat(15));
        }
    }

    private static void emptyUnit() {
        NameHashBuilder x = new NameHashBuilder(U, T, N);
        CHECK.due("setToken in an empty unit", x.setToken(0, 0, 1, 1), false);
        CHECK.due("deleteToken in an empty unit", x.deleteToken(0, 0), false);
        CHECK.due("insertToken in an empty unit at 1", x.insertToken(0, 1, 1, 1), false);
        CHECK.dueTokens("an empty unit", x, 0, "");
        CHECK.due("insertToken in an empty unit at 0", x.insertToken(0, 0, 1, 8), true);
        CHECK.dueTokens("insertToken in an empty unit", x, 0, "8");
    }

    private static void outsideQueries() {
        NameHashBuilder x = built();
        for (int unit : OUTSIDE_UNITS) {
            CHECK.due("getLength(" + unit + ")", x.getLength(unit), -1);
            CHECK.due("getTokenKind(" + unit + ", 0)", x.getTokenKind(unit, 0), 0);
            CHECK.due("getTokenValue(" + unit + ", 0)", x.getTokenValue(unit, 0), 0);
        }
        int[] outsideIndexes = {Integer.MIN_VALUE, -32, -1, 6, 7, 8, 32, 256, Integer.MAX_VALUE};
        for (int index : outsideIndexes) {
            CHECK.due("getTokenKind(1, " + index + ")", x.getTokenKind(1, index), 0);
            CHECK.due("getTokenValue(1, " + index + ")", x.getTokenValue(1, index), 0);
        }
        dueMiddle("queries", x, MIDDLE);
    }
}
