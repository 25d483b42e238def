/** Promise 7, the grammar and the error position; promises 10 and 11. */
public final class GrammarTest {
    private static final Check CHECK = new Check();

    public static void main(String[] args) {
        goodUnits();
        startErrors();
        operandErrors();
        operatorErrors();
        unendedUnits();
        longUnits();
        CHECK.end();
    }

    private static void due(String text, int error, int defs) {
        NameHashBuilder x = new NameHashBuilder(2, 32, 16);
        CHECK.fill(x, 1, text);
        CHECK.due("getUnitError(1) before the build of [" + text + "]", x.getUnitError(1), -1);
        CHECK.due("getDefCount(1) before the build of [" + text + "]", x.getDefCount(1), 0);
        x.build();
        CHECK.due("getUnitError(1) of [" + text + "]", x.getUnitError(1), error);
        CHECK.due("getDefCount(1) of [" + text + "]", x.getDefCount(1), defs);
        CHECK.due("getUnitError(0) beside [" + text + "]", x.getUnitError(0), -1);
        CHECK.due("getDefCount(0) beside [" + text + "]", x.getDefCount(0), 0);
        CHECK.dueTokens("build", x, 1, text);
    }

    private static void goodUnits() {
        due("", -1, 0);
        due("a = 1 ;", -1, 1);
        due("a = b ;", -1, 1);
        due("a = a ;", -1, 1);
        due("a = - 1 ;", -1, 1);
        due("a = - - - b ;", -1, 1);
        due("a = ( 1 ) ;", -1, 1);
        due("a = - ( - ( - b ) ) ;", -1, 1);
        due("a = 1 + 2 - 3 * 4 ;", -1, 1);
        due("a = 1 - - 2 + - 3 * - 4 ;", -1, 1);
        due("a = ( 1 + 2 ) * ( 3 - b ) ;", -1, 1);
        due("a = 1 ; b = 2 ;", -1, 2);
        due("a = 1 ; a = 2 ; a = a ;", -1, 3);
    }

    private static void startErrors() {
        for (String first : new String[] {"1", "+", "-", "*", "(", ")", "=", ";"}) {
            due(first, 0, 0);
            due(first + " a = 1 ;", 0, 0);
            due("a = 1 ; " + first, 4, 0);
            due("a = 1 ; " + first + " 1 ;", 4, 0);
        }
        for (String second : new String[] {"1", "b", "+", "-", "*", "(", ")", ";"}) {
            due("a " + second, 1, 0);
            due("a = 1 ; b " + second + " 2 ;", 5, 0);
        }
    }

    private static void operandErrors() {
        for (String wrong : new String[] {"+", "*", ")", "=", ";"}) {
            due("a = " + wrong, 2, 0);
            due("a = - " + wrong + " 1 ;", 3, 0);
            due("a = ( " + wrong + " 1 ) ;", 3, 0);
            due("a = 1 + " + wrong + " 2 ;", 4, 0);
            due("a = 1 - " + wrong + " 2 ;", 4, 0);
            due("a = 1 * " + wrong + " 2 ;", 4, 0);
        }
    }

    private static void operatorErrors() {
        for (String operand : new String[] {"1", "b"}) {
            for (String wrong : new String[] {"1", "c", "(", ")", "="}) {
                due("a = " + operand + " " + wrong, 3, 0);
            }
            for (String wrong : new String[] {"1", "c", "(", "=", ";"}) {
                due("a = ( " + operand + " " + wrong, 4, 0);
            }
        }
        for (String wrong : new String[] {"1", "c", "(", ")", "="}) {
            due("a = ( 1 ) " + wrong, 5, 0);
        }
        due("a = ( ( 1 ) ;", 6, 0);
        due("a = ( ( 1 ) ) ) ;", 7, 0);
        due("a = 1 ; b = ( 2 ; c = 3 ) ;", 8, 0);
    }

    private static void unendedUnits() {
        due("a", 1, 0);
        due("a =", 2, 0);
        due("a = 1", 3, 0);
        due("a = b", 3, 0);
        due("a = -", 3, 0);
        due("a = (", 3, 0);
        due("a = 1 +", 4, 0);
        due("a = 1 -", 4, 0);
        due("a = 1 *", 4, 0);
        due("a = ( 1 )", 5, 0);
        due("a = ( ( 1 )", 6, 0);
        due("a = 1 ; b", 5, 0);
        due("a = 1 ; b =", 6, 0);
        due("a = 1 ; b = 2", 7, 0);
    }

    private static void longUnits() {
        due("a = " + "( ".repeat(14) + "1 " + ") ".repeat(14) + ";", -1, 1);
        due("a = " + "- ".repeat(28) + "1 ;", -1, 1);
        due("a = 1 ; ".repeat(8), -1, 8);
        due("a = 1 ; ".repeat(7) + "a = 1 +", 32, 0);
        due("a = 1 ; ".repeat(7) + "a = 1 1", 31, 0);
        due("a = " + "( ".repeat(30), 32, 0);
        due("a = " + "- ".repeat(30), 32, 0);
        due("a = " + "( ".repeat(14) + "1 " + ") ".repeat(13) + "; )", 30, 0);
        due("a = " + "( ".repeat(13) + "1 " + ") ".repeat(14) + ";", 29, 0);
    }
}
