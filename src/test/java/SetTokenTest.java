/** Promise 3: setToken. */
public final class SetTokenTest {
    private static final Check CHECK = new Check();

    public static void main(String[] args) {
        CHECK.sentence("3: unit is in 0..U-1", SetTokenTest::unitRange);
        CHECK.sentence("3: index is in 0..length-1", SetTokenTest::indexRange);
        CHECK.sentence("3: index is in 0..length-1, also when the unit was longer before", SetTokenTest::shrunkUnit);
        CHECK.sentence("3: kind is in 1..9", SetTokenTest::kindRange);
        CHECK.sentence("3: if kind is K_NAME, value is in 0..N-1", SetTokenTest::nameRange);
        CHECK.sentence("3: only for K_NAME is the value tested", SetTokenTest::otherValues);
        CHECK.sentence("3: if any test fails, it answers false and changes nothing", SetTokenTest::severalTestsFail);
        CHECK.sentence("3: an empty unit always refuses", SetTokenTest::emptyUnit);
        CHECK.sentence("3: the value is stored as 0 for kinds 3..9", SetTokenTest::storedAsZero);
        CHECK.sentence("3: the length is unchanged, also that of a full unit", SetTokenTest::fullUnit);
        CHECK.sentence("3: other tokens, other units and all build results are unchanged", SetTokenTest::nothingElse);
        CHECK.end();
    }

    private static void unitRange() {
        Bench bench = new Bench(CHECK);
        bench.setToken(0, 2, 1, 5).makes("a = 5 ;");
        bench.setToken(Bench.U - 1, 2, 1, 6).makes("c = 6 ;");
        for (int unit : Bench.OUTSIDE_UNITS) {
            bench.setToken(unit, 0, 1, 7).isRefused();
        }
    }

    private static void indexRange() {
        Bench bench = new Bench(CHECK);
        bench.setToken(1, 0, 1, 5).makes("5 = a + 7 ;");
        bench.setToken(1, 5, 1, 6).makes("5 = a + 7 6");
        for (int index : new int[] {Check.MIN, -32, -1, 6, 7, 8, 31, 32, 256, Check.MAX}) {
            bench.setToken(1, index, 1, 9).isRefused();
        }
        bench.setToken(0, 4, 1, 9).isRefused();
    }

    private static void shrunkUnit() {
        Bench bench = new Bench(CHECK);
        bench.deleteToken(1, 0).makes("= a + 7 ;");
        bench.setToken(1, 5, 1, 9).isRefused();
        bench.setToken(1, 4, 1, 9).makes("= a + 7 9");
    }

    private static void kindRange() {
        for (int kind = 1; kind <= 9; kind++) {
            new Bench(CHECK).setToken(1, 2, kind, 4).makes("b = " + Bench.WORDS[kind - 1] + " + 7 ;");
        }
        Bench bench = new Bench(CHECK);
        for (int kind : Bench.OUTSIDE_KINDS) {
            bench.setToken(1, 2, kind, 4).isRefused();
        }
    }

    private static void nameRange() {
        Bench bench = new Bench(CHECK);
        bench.setToken(1, 4, 2, 0).makes("b = a + a ;");
        bench.setToken(1, 4, 2, Bench.N - 1).makes("b = a + e ;");
        for (int name : Bench.OUTSIDE_NAMES) {
            bench.setToken(1, 4, 2, name).isRefused();
        }
    }

    private static void otherValues() {
        Bench bench = new Bench(CHECK);
        for (int value : Bench.OUTSIDE_NAMES) {
            bench.setToken(1, 2, 1, value).makes("b = " + value + " + 7 ;");
            bench.setToken(1, 2, 6, value).makes("b = ( + 7 ;");
        }
    }

    private static void severalTestsFail() {
        Bench bench = new Bench(CHECK);
        bench.setToken(-1, -1, 0, -1).isRefused();
        bench.setToken(Bench.U, 6, 10, 0).isRefused();
        bench.setToken(1, 6, 0, 0).isRefused();
        bench.setToken(1, -1, 2, Bench.N).isRefused();
        bench.setToken(8, 0, 2, Bench.N).isRefused();
        bench.dueNextBuild();
    }

    private static void emptyUnit() {
        Bench bench = new Bench(CHECK, "");
        for (int index = -1; index <= Bench.T; index++) {
            bench.setToken(1, index, 1, 5).isRefused();
        }
        NameHashBuilder start = CHECK.object(2, 8, 4);
        CHECK.due("setToken at the start", start.setToken(0, 0, 1, 5), false);
        CHECK.dueTokens("setToken at the start", start, 0, "");
    }

    private static void storedAsZero() {
        for (int kind = 3; kind <= 9; kind++) {
            for (int value : new int[] {Check.MIN, -1, 0, 1, 4, Check.MAX}) {
                String sign = Bench.WORDS[kind - 1];
                new Bench(CHECK).setToken(1, 4, kind, value).makes("b = a + " + sign + " ;");
            }
        }
    }

    private static void fullUnit() {
        Bench bench = new Bench(CHECK, "1 2 3 4 5 6 7 8");
        bench.setToken(1, 0, 2, 4).makes("e 2 3 4 5 6 7 8");
        bench.setToken(1, Bench.T - 1, 9, 0).makes("e 2 3 4 5 6 7 ;");
        bench.setToken(1, Bench.T, 1, 9).isRefused();
    }

    private static void nothingElse() {
        Bench bench = new Bench(CHECK);
        bench.setToken(1, 3, 5, 0).makes("b = a * 7 ;");
        bench.setToken(1, 2, 2, 1).makes("b = b * 7 ;");
        bench.setToken(0, 0, 8, 0).makes("= = 1 ;");
        bench.setToken(2, 3, 1, Check.MIN).makes("c = d " + Check.MIN);
        bench.dueNextBuild();
    }
}
