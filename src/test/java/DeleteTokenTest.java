/** Promises 5 and 6: deleteToken and clearUnit. */
public final class DeleteTokenTest {
    private static final Check CHECK = new Check();

    public static void main(String[] args) {
        CHECK.sentence("5: unit is in 0..U-1", DeleteTokenTest::deleteUnitRange);
        CHECK.sentence("5: index is in 0..length-1", DeleteTokenTest::indexRange);
        CHECK.sentence("5: if either test fails, it answers false and changes nothing", DeleteTokenTest::bothTestsFail);
        CHECK.sentence("5: an empty unit always refuses", DeleteTokenTest::emptyUnit);
        CHECK.sentence("5: the tokens at index+1..length-1 move, keeping their order", DeleteTokenTest::tokensMove);
        CHECK.sentence("5: the length shrinks by one, down to 0", DeleteTokenTest::shrinksByOne);
        CHECK.sentence("5: the length shrinks by one, also from T", DeleteTokenTest::fullUnit);
        CHECK.sentence("5: tokens before index, other units and all build results are unchanged",
                DeleteTokenTest::nothingElse);
        CHECK.sentence("6: if unit is outside 0..U-1, it answers false and changes nothing",
                DeleteTokenTest::clearUnitRange);
        CHECK.sentence("6: the length becomes 0", DeleteTokenTest::clears);
        CHECK.sentence("6: also when it was already 0", DeleteTokenTest::clearsEmptyUnit);
        CHECK.sentence("6: other units and all build results are unchanged", DeleteTokenTest::clearsNothingElse);
        CHECK.end();
    }

    private static void deleteUnitRange() {
        Bench bench = new Bench(CHECK);
        bench.deleteToken(0, 0).makes("= 1 ;");
        bench.deleteToken(Bench.U - 1, 0).makes("= d ;");
        for (int unit : Bench.OUTSIDE_UNITS) {
            bench.deleteToken(unit, 0).isRefused();
        }
    }

    private static void indexRange() {
        new Bench(CHECK).deleteToken(1, 0).makes("= a + 7 ;");
        new Bench(CHECK).deleteToken(1, 5).makes("b = a + 7");
        Bench bench = new Bench(CHECK);
        for (int index : new int[] {Check.MIN, -32, -1, 6, 7, 8, 31, 32, 256, Check.MAX}) {
            bench.deleteToken(1, index).isRefused();
        }
        bench.deleteToken(0, 4).isRefused();
        bench.deleteToken(1, 5).makes("b = a + 7");
        bench.deleteToken(1, 5).isRefused();
    }

    private static void bothTestsFail() {
        Bench bench = new Bench(CHECK);
        bench.deleteToken(-1, -1).isRefused();
        bench.deleteToken(Bench.U, 8).isRefused();
        bench.deleteToken(Check.MAX, Check.MAX).isRefused();
        bench.deleteToken(Check.MIN, Check.MIN).isRefused();
        bench.dueNextBuild();
    }

    private static void emptyUnit() {
        Bench bench = new Bench(CHECK, "");
        for (int index = -1; index <= Bench.T; index++) {
            bench.deleteToken(1, index).isRefused();
        }
        NameHashBuilder start = CHECK.object(2, 8, 4);
        CHECK.due("deleteToken at the start", start.deleteToken(0, 0), false);
        CHECK.dueTokens("deleteToken at the start", start, 0, "");
    }

    private static void tokensMove() {
        Bench bench = new Bench(CHECK, "1 a 3 + 5 ; 7");
        bench.deleteToken(1, 2).makes("1 a + 5 ; 7");
        bench.deleteToken(1, 0).makes("a + 5 ; 7");
        bench.deleteToken(1, 3).makes("a + 5 7");
    }

    private static void shrinksByOne() {
        Bench bench = new Bench(CHECK, "1 2 3");
        bench.deleteToken(1, 2).makes("1 2");
        bench.deleteToken(1, 0).makes("2");
        bench.deleteToken(1, 0).makes("");
        bench.deleteToken(1, 0).isRefused();
        bench.append(1, 9, 0).makes(";");
    }

    private static void fullUnit() {
        String full = "1 2 3 4 5 6 7 8 ";
        for (int index = 0; index < Bench.T; index++) {
            Bench bench = new Bench(CHECK, full);
            String rest = full.substring(0, 2 * index) + full.substring(2 * index + 2);
            bench.deleteToken(1, index).makes(rest);
            bench.deleteToken(1, Bench.T - 1).isRefused();
            bench.append(1, 1, 9).makes(rest + "9");
        }
    }

    private static void nothingElse() {
        Bench bench = new Bench(CHECK);
        bench.deleteToken(1, 3).makes("b = a 7 ;");
        bench.deleteToken(0, 3).makes("a = 1");
        bench.deleteToken(2, 0).makes("= d ;");
        bench.dueNextBuild();
    }

    private static void clearUnitRange() {
        Bench bench = new Bench(CHECK);
        for (int unit : Bench.OUTSIDE_UNITS) {
            bench.clearUnit(unit).isRefused();
        }
        bench.clearUnit(0).makes("");
        bench.clearUnit(Bench.U - 1).makes("");
    }

    private static void clears() {
        Bench bench = new Bench(CHECK, "1 2 3 4 5 6 7 8");
        bench.clearUnit(1).makes("");
        bench.setToken(1, 0, 1, 1).isRefused();
        bench.deleteToken(1, 0).isRefused();
        bench.insertToken(1, 1, 1, 1).isRefused();
        StringBuilder text = new StringBuilder();
        for (int i = 0; i < Bench.T; i++) {
            text.append("( ");
            bench.append(1, 6, i).makes(text.toString());
        }
        bench.append(1, 6, 0).isRefused();
    }

    private static void clearsEmptyUnit() {
        Bench bench = new Bench(CHECK, "");
        bench.clearUnit(1).makes("");
        bench.clearUnit(1).makes("");
        NameHashBuilder start = CHECK.object(2, 8, 4);
        CHECK.due("clearUnit(0) at the start", start.clearUnit(0), true);
        CHECK.due("clearUnit(1) at the start", start.clearUnit(1), true);
        CHECK.dueTokens("clearUnit at the start", start, 0, "");
    }

    private static void clearsNothingElse() {
        Bench bench = new Bench(CHECK);
        bench.clearUnit(1).makes("");
        bench.dueNextBuild();
        Bench other = new Bench(CHECK);
        other.clearUnit(0).makes("");
        other.clearUnit(2).makes("");
        other.dueNextBuild();
    }
}
