/** Promise 2: append. */
public final class AppendTest {
    private static final Check CHECK = new Check();

    public static void main(String[] args) {
        CHECK.sentence("2: unit is in 0..U-1", AppendTest::unitRange);
        CHECK.sentence("2: kind is in 1..9", AppendTest::kindRange);
        CHECK.sentence("2: if kind is K_NAME, value is in 0..N-1", AppendTest::nameRange);
        CHECK.sentence("2: only for K_NAME is the value tested", AppendTest::otherValues);
        CHECK.sentence("2: the unit's length is below T", AppendTest::lengthBelowT);
        CHECK.sentence("2: if any test fails, it answers false and changes nothing", AppendTest::severalTestsFail);
        CHECK.sentence("2: put at index = old length, and the length grows by one", AppendTest::growsByOne);
        CHECK.sentence("2: the value is value for K_NUM (any int) and K_NAME", AppendTest::storedAsGiven);
        CHECK.sentence("2: the value is stored as 0 for kinds 3..9", AppendTest::storedAsZero);
        CHECK.sentence("2: other units, other tokens and all build results are unchanged", AppendTest::nothingElse);
        CHECK.end();
    }

    private static void unitRange() {
        Bench bench = new Bench(CHECK);
        bench.append(0, 1, 5).makes("a = 1 ; 5");
        bench.append(Bench.U - 1, 1, 6).makes("c = d ; 6");
        for (int unit : Bench.OUTSIDE_UNITS) {
            bench.append(unit, 1, 7).isRefused();
        }
    }

    private static void kindRange() {
        for (int kind = 1; kind <= 9; kind++) {
            new Bench(CHECK).append(1, kind, 4).makes("b = a + 7 ; " + Bench.WORDS[kind - 1]);
        }
        Bench bench = new Bench(CHECK);
        for (int kind : Bench.OUTSIDE_KINDS) {
            bench.append(1, kind, 4).isRefused();
        }
    }

    private static void nameRange() {
        Bench bench = new Bench(CHECK, "");
        bench.append(1, 2, 0).makes("a");
        bench.append(1, 2, Bench.N - 1).makes("a e");
        for (int name : Bench.OUTSIDE_NAMES) {
            bench.append(1, 2, name).isRefused();
        }
    }

    private static void otherValues() {
        for (int value : Bench.OUTSIDE_NAMES) {
            new Bench(CHECK).append(1, 1, value).makes("b = a + 7 ; " + value);
            new Bench(CHECK).append(1, 3, value).makes("b = a + 7 ; +");
            new Bench(CHECK).append(1, 9, value).makes("b = a + 7 ; ;");
        }
    }

    private static void lengthBelowT() {
        Bench bench = new Bench(CHECK, "b = a + 7 ; d");
        bench.append(1, 1, 3).makes("b = a + 7 ; d 3");
        for (int kind = 1; kind <= 9; kind++) {
            bench.append(1, kind, 1).isRefused();
        }
        bench.append(0, 9, 0).makes("a = 1 ; ;");
    }

    private static void severalTestsFail() {
        Bench bench = new Bench(CHECK, "1 2 3 4 5 6 7 8");
        bench.append(-1, 0, -1).isRefused();
        bench.append(Bench.U, 2, Bench.N).isRefused();
        bench.append(8, 10, 0).isRefused();
        bench.append(1, 0, 0).isRefused();
        bench.append(1, 10, 0).isRefused();
        bench.append(1, 2, -1).isRefused();
        bench.append(1, 2, Bench.N).isRefused();
        bench.dueNextBuild();
    }

    private static void growsByOne() {
        Bench bench = new Bench(CHECK, "");
        StringBuilder text = new StringBuilder();
        for (int i = 0; i < Bench.T; i++) {
            text.append(10 + i).append(' ');
            bench.append(1, 1, 10 + i).makes(text.toString());
        }
    }

    private static void storedAsGiven() {
        for (int value : new int[] {Check.MIN, Check.MIN + 1, -1, 0, 1, Bench.N, Check.MAX - 1, Check.MAX}) {
            new Bench(CHECK).append(1, 1, value).makes("b = a + 7 ; " + value);
        }
        for (int name = 0; name < Bench.N; name++) {
            new Bench(CHECK).append(1, 2, name).makes("b = a + 7 ; " + (char) ('a' + name));
        }
    }

    /** Where a literal stood before the unit was cleared. */
    private static void storedAsZero() {
        for (int kind = 3; kind <= 9; kind++) {
            for (int value : new int[] {Check.MIN, -1, 0, 1, 4, Check.MAX}) {
                Bench bench = new Bench(CHECK, "77");
                bench.clearUnit(1).makes("");
                bench.append(1, kind, value).makes(Bench.WORDS[kind - 1]);
            }
        }
    }

    private static void nothingElse() {
        Bench bench = new Bench(CHECK);
        bench.append(1, 2, 1).makes("b = a + 7 ; b");
        bench.append(0, 2, 0).makes("a = 1 ; a");
        bench.append(2, 8, 0).makes("c = d ; =");
        bench.append(1, 9, 0).makes("b = a + 7 ; b ;");
        bench.dueNextBuild();
    }
}
