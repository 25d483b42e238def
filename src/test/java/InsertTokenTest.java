/** Promise 4: insertToken. */
public final class InsertTokenTest {
    private static final Check CHECK = new Check();

    public static void main(String[] args) {
        CHECK.sentence("4: unit is in 0..U-1", InsertTokenTest::unitRange);
        CHECK.sentence("4: index is in 0..length", InsertTokenTest::indexRange);
        CHECK.sentence("4: index = length means at the end", InsertTokenTest::atTheEnd);
        CHECK.sentence("4: kind is in 1..9", InsertTokenTest::kindRange);
        CHECK.sentence("4: if kind is K_NAME, value is in 0..N-1", InsertTokenTest::nameRange);
        CHECK.sentence("4: only for K_NAME is the value tested", InsertTokenTest::otherValues);
        CHECK.sentence("4: the length is below T", InsertTokenTest::lengthBelowT);
        CHECK.sentence("4: if any test fails, it answers false and changes nothing",
                InsertTokenTest::severalTestsFail);
        CHECK.sentence("4: a full unit (length T) always refuses", InsertTokenTest::fullUnit);
        CHECK.sentence("4: the tokens at index..length-1 move on, keeping their order", InsertTokenTest::tokensMove);
        CHECK.sentence("4: the new token is formed as in append", InsertTokenTest::formedAsInAppend);
        CHECK.sentence("4: tokens before index, other units and all build results are unchanged",
                InsertTokenTest::nothingElse);
        CHECK.sentence("4: other units are unchanged, at the greatest sizes", InsertTokenTest::greatestSizes);
        CHECK.end();
    }

    private static void unitRange() {
        Bench bench = new Bench(CHECK);
        bench.insertToken(0, 2, 4, 0).makes("a = - 1 ;");
        bench.insertToken(Bench.U - 1, 2, 4, 0).makes("c = - d ;");
        for (int unit : Bench.OUTSIDE_UNITS) {
            bench.insertToken(unit, 0, 1, 7).isRefused();
        }
    }

    private static void indexRange() {
        new Bench(CHECK).insertToken(1, 0, 1, 5).makes("5 b = a + 7 ;");
        new Bench(CHECK).insertToken(1, 5, 1, 5).makes("b = a + 7 5 ;");
        new Bench(CHECK).insertToken(1, 6, 1, 5).makes("b = a + 7 ; 5");
        Bench bench = new Bench(CHECK);
        for (int index : new int[] {Check.MIN, -32, -1, 7, 8, 9, 31, 32, 256, Check.MAX}) {
            bench.insertToken(1, index, 1, 9).isRefused();
        }
        bench.insertToken(0, 5, 1, 9).isRefused();
    }

    private static void atTheEnd() {
        Bench bench = new Bench(CHECK, "");
        bench.insertToken(1, 1, 1, 3).isRefused();
        StringBuilder text = new StringBuilder();
        for (int i = 0; i < Bench.T; i++) {
            text.append(10 + i).append(' ');
            bench.insertToken(1, i, 1, 10 + i).makes(text.toString());
        }
        NameHashBuilder start = CHECK.object(2, 8, 4);
        CHECK.due("insertToken(0, 0, 1, 5) at the start", start.insertToken(0, 0, 1, 5), true);
        CHECK.dueTokens("insertToken at the start", start, 0, "5");
    }

    private static void kindRange() {
        for (int kind = 1; kind <= 9; kind++) {
            new Bench(CHECK).insertToken(1, 2, kind, 4).makes("b = " + Bench.WORDS[kind - 1] + " a + 7 ;");
        }
        Bench bench = new Bench(CHECK);
        for (int kind : Bench.OUTSIDE_KINDS) {
            bench.insertToken(1, 2, kind, 4).isRefused();
        }
    }

    private static void nameRange() {
        Bench bench = new Bench(CHECK);
        bench.insertToken(1, 4, 2, 0).makes("b = a + a 7 ;");
        bench.insertToken(1, 4, 2, Bench.N - 1).makes("b = a + e a 7 ;");
        Bench other = new Bench(CHECK);
        for (int name : Bench.OUTSIDE_NAMES) {
            other.insertToken(1, 4, 2, name).isRefused();
        }
    }

    private static void otherValues() {
        for (int value : Bench.OUTSIDE_NAMES) {
            Bench bench = new Bench(CHECK);
            bench.insertToken(1, 2, 1, value).makes("b = " + value + " a + 7 ;");
            bench.insertToken(1, 2, 6, value).makes("b = ( " + value + " a + 7 ;");
        }
    }

    private static void lengthBelowT() {
        for (int index = 0; index < Bench.T; index++) {
            Bench bench = new Bench(CHECK, "1 2 3 4 5 6 7");
            bench.insertToken(1, index, 1, 0).makes("1 2 3 4 5 6 7 ".substring(0, 2 * index) + "0 "
                    + "1 2 3 4 5 6 7 ".substring(2 * index));
            bench.insertToken(1, index, 1, 0).isRefused();
        }
    }

    private static void severalTestsFail() {
        Bench bench = new Bench(CHECK, "1 2 3 4 5 6 7 8");
        bench.insertToken(-1, -1, 0, -1).isRefused();
        bench.insertToken(Bench.U, 9, 10, 0).isRefused();
        bench.insertToken(8, 0, 2, Bench.N).isRefused();
        bench.insertToken(1, 9, 1, 0).isRefused();
        bench.insertToken(1, -1, 2, Bench.N).isRefused();
        bench.insertToken(1, 8, 0, 0).isRefused();
        bench.insertToken(1, 0, 2, -1).isRefused();
        bench.dueNextBuild();
    }

    private static void fullUnit() {
        Bench bench = new Bench(CHECK, "1 2 3 4 5 6 7 8");
        for (int index = -1; index <= Bench.T + 1; index++) {
            for (int kind = 1; kind <= 9; kind++) {
                bench.insertToken(1, index, kind, 4).isRefused();
            }
        }
        bench.deleteToken(1, 7).makes("1 2 3 4 5 6 7");
        bench.insertToken(1, 7, 9, 0).makes("1 2 3 4 5 6 7 ;");
    }

    private static void tokensMove() {
        Bench bench = new Bench(CHECK, "1 a 3 + 5");
        bench.insertToken(1, 0, 1, 9).makes("9 1 a 3 + 5");
        bench.insertToken(1, 3, 7, 0).makes("9 1 a ) 3 + 5");
        bench.insertToken(1, 6, 2, 3).makes("9 1 a ) 3 + d 5");
    }

    /** Where a literal stood before the unit was cleared. */
    private static void formedAsInAppend() {
        for (int value : new int[] {Check.MIN, -1, 0, 1, 4, Check.MAX}) {
            new Bench(CHECK).insertToken(1, 4, 1, value).makes("b = a + " + value + " 7 ;");
            for (int kind = 3; kind <= 9; kind++) {
                String sign = Bench.WORDS[kind - 1];
                new Bench(CHECK).insertToken(1, 4, kind, value).makes("b = a + " + sign + " 7 ;");
                Bench bench = new Bench(CHECK, "77");
                bench.clearUnit(1).makes("");
                bench.insertToken(1, 0, kind, value).makes(sign);
            }
        }
    }

    private static void nothingElse() {
        Bench bench = new Bench(CHECK);
        bench.insertToken(1, 2, 4, 0).makes("b = - a + 7 ;");
        bench.insertToken(1, 7, 2, 1).makes("b = - a + 7 ; b");
        bench.insertToken(0, 0, 8, 0).makes("= a = 1 ;");
        bench.insertToken(2, 3, 9, 0).makes("c = d ; ;");
        bench.dueNextBuild();
    }

    /** All units full: an edit reaches neither the unit before nor the next nor past the last one. */
    private static void greatestSizes() {
        NameHashBuilder x = CHECK.object(8, 32, 16);
        String[] texts = new String[8];
        for (int unit = 0; unit < 8; unit++) {
            texts[unit] = (unit + " p ").repeat(16);
            CHECK.fill(x, unit, texts[unit]);
        }
        for (int unit = 0; unit < 8; unit++) {
            CHECK.due("append to full unit " + unit, x.append(unit, 1, 1), false);
            CHECK.due("insertToken in full unit " + unit, x.insertToken(unit, 32, 1, 1), false);
            dueTexts("refused edits of unit " + unit, x, texts);
            CHECK.due("deleteToken in full unit " + unit, x.deleteToken(unit, 0), true);
            texts[unit] = "p " + (unit + " p ").repeat(15);
            dueTexts("deleteToken in unit " + unit, x, texts);
            CHECK.due("insertToken in unit " + unit, x.insertToken(unit, 0, 9, 3), true);
            texts[unit] = "; " + texts[unit];
            dueTexts("insertToken in unit " + unit, x, texts);
        }
    }

    private static void dueTexts(String when, NameHashBuilder x, String[] texts) {
        for (int unit = 0; unit < texts.length; unit++) {
            CHECK.dueTokens(when, x, unit, texts[unit]);
        }
    }
}
