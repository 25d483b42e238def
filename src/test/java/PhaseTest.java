/**
 * Promises 8 to 16: every query on the same object before the first build, after a build, after
 * edits that follow it, after the next build, and after one that finds nothing changed.
 */
public final class PhaseTest {
    private static final int NODEF = NameHashBuilder.ST_NODEF;
    private static final int OK = NameHashBuilder.ST_OK;
    private static final int UNDEF = NameHashBuilder.ST_UNDEF;
    private static final int CYCLE = NameHashBuilder.ST_CYCLE;
    private static final int BROKEN = NameHashBuilder.ST_BROKEN;
    private static final int MIN = Check.MIN;
    private static final int MAX = Check.MAX;

    private static final int U = 3;
    private static final int T = 16;
    private static final int N = 6;
    private static final int[] OUTSIDE_UNITS = {MIN, -1, U, U + 1, 8, 32, MAX};
    private static final int[] OUTSIDE_NAMES = {MIN, -32, -1, N, N + 1, 16, 32, MAX};
    private static final int[] OUTSIDE_INDEXES = {MIN, -32, -1, T, 31, 32, 64, MAX};

    private static final String[] FIRST = {"a = b ; b = 2 ; c = c ;", "d = e ; f = d ;", "a = f ; e = ("};
    private static final String[] SECOND = {"a = - b ; b = 2 ;", "d = e ; e = 1 ; f = d ;", "a = f ; ;"};

    private static final Check CHECK = new Check();

    public static void main(String[] args) {
        CHECK.sentence("8 to 16: before the first build", PhaseTest::beforeFirstBuild);
        CHECK.sentence("8 to 16: after a build", PhaseTest::afterBuild);
        CHECK.sentence("8 to 16: after edits that follow a build", PhaseTest::afterEdits);
        CHECK.sentence("8 to 16: after the next build", PhaseTest::afterNextBuild);
        CHECK.sentence("8 to 16: after a build that finds nothing changed", PhaseTest::afterIdleBuild);
        CHECK.end();
    }

    private static NameHashBuilder filled() {
        NameHashBuilder x = CHECK.object(U, T, N);
        for (int unit = 0; unit < U; unit++) {
            CHECK.fill(x, unit, FIRST[unit]);
        }
        return x;
    }

    private static NameHashBuilder edited() {
        NameHashBuilder x = filled();
        x.build();
        edit(x);
        return x;
    }

    /** From FIRST to SECOND, by each of the five edits. */
    private static void edit(NameHashBuilder x) {
        CHECK.due("insertToken(0, 2, 4, 0)", x.insertToken(0, 2, NameHashBuilder.K_MINUS, 0), true);
        for (int i = 0; i < 4; i++) {
            CHECK.due("deleteToken(0, 9)", x.deleteToken(0, 9), true);
        }
        CHECK.due("clearUnit(1)", x.clearUnit(1), true);
        CHECK.fill(x, 1, SECOND[1]);
        CHECK.due("setToken(2, 4, 9, 0)", x.setToken(2, 4, NameHashBuilder.K_SEMI, 0), true);
        CHECK.due("deleteToken(2, 5)", x.deleteToken(2, 5), true);
        CHECK.due("deleteToken(2, 5)", x.deleteToken(2, 5), true);
        CHECK.due("append(3, 1, 1)", x.append(U, NameHashBuilder.K_NUM, 1), false);
    }

    private static void beforeFirstBuild() {
        NameHashBuilder x = filled();
        dueTokens("filled", x, FIRST);
        dueStartResults("filled", x);
        edit(x);
        dueTokens("edited", x, SECOND);
        dueStartResults("edited", x);
    }

    private static void afterBuild() {
        NameHashBuilder x = filled();
        CHECK.dueBuild("first build", x, "abcdf");
        dueTokens("built", x, FIRST);
        dueFirstResults("built", x);
    }

    private static void afterEdits() {
        NameHashBuilder x = edited();
        dueTokens("edited", x, SECOND);
        dueFirstResults("edited", x);
        CHECK.dueChanged("edited", x, "abcdf");
    }

    private static void afterNextBuild() {
        NameHashBuilder x = edited();
        CHECK.dueBuild("next build", x, "acdef");
        dueTokens("built again", x, SECOND);
        dueSecondResults("built again", x);
    }

    private static void afterIdleBuild() {
        NameHashBuilder x = edited();
        x.build();
        for (int build = 0; build < 3; build++) {
            CHECK.dueBuild("idle build", x, "");
            dueTokens("idle build", x, SECOND);
            dueSecondResults("idle build", x);
        }
    }

    private static void dueTokens(String when, NameHashBuilder x, String[] texts) {
        for (int unit = 0; unit < U; unit++) {
            CHECK.dueTokens(when, x, unit, texts[unit]);
            for (int index : OUTSIDE_INDEXES) {
                CHECK.dueToken(when, x, unit, index, 0, 0);
            }
        }
        for (int unit : OUTSIDE_UNITS) {
            CHECK.due(when + ": getLength(" + unit + ")", x.getLength(unit), -1);
            CHECK.dueToken(when, x, unit, 0, 0, 0);
        }
        dueOutside(when, x);
    }

    private static void dueOutside(String when, NameHashBuilder x) {
        for (int unit : OUTSIDE_UNITS) {
            CHECK.dueUnit(when, x, unit, NameHashBuilder.BAD_UNIT, -1);
            CHECK.dueUses(when, x, unit, "");
        }
        for (int name : OUTSIDE_NAMES) {
            CHECK.dueName(when, x, name, -1, NODEF, 0);
            CHECK.due(when + ": isChanged(" + name + ")", x.isChanged(name), false);
            CHECK.due(when + ": usesName(0, " + name + ")", x.usesName(0, name), false);
        }
    }

    private static void dueUnit(String when, NameHashBuilder x, int unit, int error, int defs, String uses) {
        CHECK.dueUnit(when, x, unit, error, defs);
        CHECK.dueUses(when, x, unit, uses);
    }

    private static void dueStartResults(String when, NameHashBuilder x) {
        for (int unit = 0; unit < U; unit++) {
            dueUnit(when, x, unit, NameHashBuilder.UNIT_OK, 0, "");
        }
        for (int name = 0; name < N; name++) {
            CHECK.dueName(when, x, name, -1, NODEF, 0);
        }
        CHECK.dueChanged(when, x, "");
    }

    private static void dueFirstResults(String when, NameHashBuilder x) {
        dueUnit(when, x, 0, NameHashBuilder.UNIT_OK, 3, "bc");
        dueUnit(when, x, 1, NameHashBuilder.UNIT_OK, 2, "de");
        dueUnit(when, x, 2, 7, 0, "");
        CHECK.dueName(when, x, 0, 0, OK, 2);
        CHECK.dueName(when, x, 1, 0, OK, 2);
        CHECK.dueName(when, x, 2, 0, CYCLE, 0);
        CHECK.dueName(when, x, 3, 1, UNDEF, 0);
        CHECK.dueName(when, x, 4, -1, NODEF, 0);
        CHECK.dueName(when, x, 5, 1, BROKEN, 0);
    }

    private static void dueSecondResults(String when, NameHashBuilder x) {
        dueUnit(when, x, 0, NameHashBuilder.UNIT_OK, 2, "b");
        dueUnit(when, x, 1, NameHashBuilder.UNIT_OK, 3, "de");
        dueUnit(when, x, 2, 4, 0, "");
        CHECK.dueName(when, x, 0, 0, OK, -2);
        CHECK.dueName(when, x, 1, 0, OK, 2);
        CHECK.dueName(when, x, 2, -1, NODEF, 0);
        CHECK.dueName(when, x, 3, 1, OK, 1);
        CHECK.dueName(when, x, 4, 1, OK, 1);
        CHECK.dueName(when, x, 5, 1, OK, 1);
    }
}
