/** Promise 7, the grammar and the error position. */
public final class GrammarTest {
    private static final Check CHECK = new Check();

    public static void main(String[] args) {
        CHECK.sentence("7: unit := { def }, one def or many", GrammarTest::units);
        CHECK.sentence("7: unit (may be empty): an empty unit has no error", GrammarTest::emptyUnits);
        CHECK.sentence("7: expr := term { ('+' | '-') term }", GrammarTest::exprs);
        CHECK.sentence("7: term := unary { '*' unary }", GrammarTest::terms);
        CHECK.sentence("7: unary := '-' unary | primary", GrammarTest::unaries);
        CHECK.sentence("7: primary := NUM | NAME | '(' expr ')'", GrammarTest::primaries);
        CHECK.sentence("7: a unit whose tokens derive unit has no error, also a full one", GrammarTest::fullUnits);
        CHECK.sentence("7: a unit starting with '=' has error position 0", GrammarTest::startsWithAssign);
        CHECK.sentence("7: a unit holding exactly NAME = NUM (no ';') has error position 3", GrammarTest::noSemi);
        CHECK.sentence("7: the least k: where a def or a '=' is due", GrammarTest::startErrors);
        CHECK.sentence("7: the least k: where an operand is due", GrammarTest::operandErrors);
        CHECK.sentence("7: the least k: where an operator is due", GrammarTest::operatorErrors);
        CHECK.sentence("7: the least k: of two errors the first", GrammarTest::firstError);
        CHECK.sentence("7: 0 <= k < L: an error at the last token", GrammarTest::lastTokenErrors);
        CHECK.sentence("7: a prefix of any token list, also of one longer than T", GrammarTest::prefixOfLongerList);
        CHECK.sentence("7: if there is no such k and the tokens do not derive unit, it is L",
                GrammarTest::unendedUnits);
        CHECK.sentence("7: the error position L of a full unit is T", GrammarTest::unendedFullUnits);
        CHECK.sentence("7: the error position hangs on the current tokens alone", GrammarTest::mendedUnit);
        CHECK.end();
    }

    private static void due(String text, int error, int defs) {
        NameHashBuilder x = CHECK.object(2, 32, 16);
        CHECK.fill(x, 1, text);
        x.build();
        CHECK.dueUnit("[" + text + "]", x, 1, error, defs);
        CHECK.dueUnit("beside [" + text + "]", x, 0, -1, 0);
        CHECK.dueTokens("build", x, 1, text);
    }

    private static void units() {
        due("a = 1 ;", -1, 1);
        due("a = b ;", -1, 1);
        due("a = a ;", -1, 1);
        due("a = 1 ; b = 2 ;", -1, 2);
        due("a = 1 ; a = 2 ; a = a ;", -1, 3);
    }

    private static void emptyUnits() {
        due("", -1, 0);
        NameHashBuilder x = CHECK.built("=", "a", "= =", "a = 1 ;");
        CHECK.due("clearUnit(0)", x.clearUnit(0), true);
        CHECK.due("deleteToken(1, 0)", x.deleteToken(1, 0), true);
        CHECK.dueBuild("units 0 and 1 emptied", x, "");
        CHECK.dueUnit("cleared", x, 0, NameHashBuilder.UNIT_OK, 0);
        CHECK.dueUnit("deleted", x, 1, NameHashBuilder.UNIT_OK, 0);
        CHECK.dueUnit("not emptied", x, 2, 0, 0);
        CHECK.dueUnit("good", x, 3, NameHashBuilder.UNIT_OK, 1);
    }

    private static void exprs() {
        due("a = 1 + 2 ;", -1, 1);
        due("a = 1 - 2 ;", -1, 1);
        due("a = 1 + 2 - 3 + b ;", -1, 1);
        due("a = 1 + ;", 4, 0);
        due("a = + 1 ;", 2, 0);
    }

    private static void terms() {
        due("a = 1 * 2 ;", -1, 1);
        due("a = 1 * b * 3 ;", -1, 1);
        due("a = 1 + 2 - 3 * 4 ;", -1, 1);
        due("a = 1 * ;", 4, 0);
        due("a = * 1 ;", 2, 0);
    }

    private static void unaries() {
        due("a = - 1 ;", -1, 1);
        due("a = - - - b ;", -1, 1);
        due("a = 1 - - 2 + - 3 * - 4 ;", -1, 1);
        due("a = - ( - ( - b ) ) ;", -1, 1);
        due("a = - ;", 3, 0);
        due("a = - + 1 ;", 3, 0);
    }

    private static void primaries() {
        due("a = ( 1 ) ;", -1, 1);
        due("a = ( ( b ) ) ;", -1, 1);
        due("a = ( 1 + 2 ) * ( 3 - b ) ;", -1, 1);
        due("a = ( ) ;", 3, 0);
        due("a = 1 2 ;", 3, 0);
        due("a = b ( 2 ) ;", 3, 0);
    }

    private static void fullUnits() {
        due("a = " + "( ".repeat(14) + "1 " + ") ".repeat(14) + ";", -1, 1);
        due("a = " + "- ".repeat(28) + "1 ;", -1, 1);
        due("a = 1 ; ".repeat(8), -1, 8);
        NameHashBuilder least = CHECK.object(2, 8, 4);
        CHECK.fill(least, 0, "a = 1 ; b = a ;");
        CHECK.dueBuild("T = 8", least, "ab");
        CHECK.dueUnit("T = 8", least, 0, -1, 2);
    }

    private static void startsWithAssign() {
        due("=", 0, 0);
        due("= 1 ;", 0, 0);
        due("= a = 1 ;", 0, 0);
        due("= ".repeat(32), 0, 0);
    }

    private static void noSemi() {
        due("a = 1", 3, 0);
        due("p = -2147483648", 3, 0);
    }

    private static void startErrors() {
        for (String first : new String[] {"1", "+", "-", "*", "(", ")", "=", ";"}) {
            due(first, 0, 0);
            due(first + " a = 1 ;", 0, 0);
            due("a = 1 ; " + first, 4, 0);
            due("a = 1 ; " + first + " 1 ;", 4, 0);
        }
        for (String second : new String[] {"1", "b", "+", "-", "*", "(", ")", ";"}) {
            due("a " + second, 1, 0);
            due("a = 1 ; b " + second + " 2 ;", 5, 0);
        }
    }

    private static void operandErrors() {
        for (String wrong : new String[] {"+", "*", ")", "=", ";"}) {
            due("a = " + wrong, 2, 0);
            due("a = - " + wrong + " 1 ;", 3, 0);
            due("a = ( " + wrong + " 1 ) ;", 3, 0);
            due("a = 1 + " + wrong + " 2 ;", 4, 0);
            due("a = 1 - " + wrong + " 2 ;", 4, 0);
            due("a = 1 * " + wrong + " 2 ;", 4, 0);
        }
    }

    private static void operatorErrors() {
        for (String operand : new String[] {"1", "b"}) {
            for (String wrong : new String[] {"1", "c", "(", ")", "="}) {
                due("a = " + operand + " " + wrong, 3, 0);
            }
            for (String wrong : new String[] {"1", "c", "(", "=", ";"}) {
                due("a = ( " + operand + " " + wrong, 4, 0);
            }
        }
        for (String wrong : new String[] {"1", "c", "(", ")", "="}) {
            due("a = ( 1 ) " + wrong, 5, 0);
        }
        due("a = ( ( 1 ) ;", 6, 0);
        due("a = ( ( 1 ) ) ) ;", 7, 0);
        due("a = 1 ; b = ( 2 ; c = 3 ) ;", 8, 0);
    }

    private static void firstError() {
        due("; ;", 0, 0);
        due("a a a", 1, 0);
        due("a = = 1 ; b = = 2 ;", 2, 0);
        due("a = 1 ) ) ;", 3, 0);
        due("a = 1 ; 2 ; 3", 4, 0);
    }

    private static void lastTokenErrors() {
        due("a = 1 ; ;", 4, 0);
        due("a = 1 ; ".repeat(7) + "a = 1 1", 31, 0);
        due("a = " + "( ".repeat(14) + "1 " + ") ".repeat(13) + "; )", 30, 0);
        due("a = " + "( ".repeat(13) + "1 " + ") ".repeat(14) + ";", 29, 0);
    }

    /** No room is left to close what is open, and yet nothing before the end is wrong. */
    private static void prefixOfLongerList() {
        due("a = " + "( ".repeat(30), 32, 0);
        due("a = " + "- ".repeat(30), 32, 0);
        due("a = " + "- ( ".repeat(15), 32, 0);
        due("a = " + "( ".repeat(29) + "1", 32, 0);
        due("a = " + "( ".repeat(28) + "1 ;", 31, 0);
    }

    private static void unendedUnits() {
        due("a", 1, 0);
        due("a =", 2, 0);
        due("a = b", 3, 0);
        due("a = -", 3, 0);
        due("a = (", 3, 0);
        due("a = 1 +", 4, 0);
        due("a = 1 -", 4, 0);
        due("a = 1 *", 4, 0);
        due("a = ( 1 )", 5, 0);
        due("a = ( ( 1 )", 6, 0);
        due("a = 1 ; b", 5, 0);
        due("a = 1 ; b =", 6, 0);
        due("a = 1 ; b = 2", 7, 0);
    }

    private static void unendedFullUnits() {
        for (int t = 8; t <= 32; t++) {
            NameHashBuilder x = CHECK.object(2, t, 4);
            CHECK.fill(x, 0, "a = " + "- ".repeat(t - 2));
            CHECK.fill(x, 1, "a = " + "- ".repeat(t - 3) + "1");
            CHECK.dueBuild("T = " + t, x, "");
            CHECK.dueUnit("T = " + t, x, 0, t, 0);
            CHECK.dueUnit("T = " + t, x, 1, t, 0);
            CHECK.due("setToken", x.setToken(1, t - 2, 1, 1), true);
            CHECK.due("setToken", x.setToken(1, t - 1, 9, 0), true);
            CHECK.dueBuild("T = " + t + ", ended", x, "a");
            CHECK.dueUnit("T = " + t + ", ended", x, 1, -1, 1);
        }
    }

    private static void mendedUnit() {
        NameHashBuilder x = CHECK.built("a = 1 1 ;");
        CHECK.dueUnit("wrong", x, 0, 3, 0);
        CHECK.due("deleteToken", x.deleteToken(0, 3), true);
        x.build();
        CHECK.dueUnit("mended", x, 0, -1, 1);
        CHECK.due("deleteToken", x.deleteToken(0, 3), true);
        x.build();
        CHECK.dueUnit("without its end", x, 0, 3, 0);
        CHECK.due("deleteToken", x.deleteToken(0, 1), true);
        x.build();
        CHECK.dueUnit("without its '='", x, 0, 1, 0);
    }
}
