/** Promise 1: the clamped sizes and the start results. */
public final class StartTest {
    private static final int MIN = Check.MIN;
    private static final int MAX = Check.MAX;

    private static final Check CHECK = new Check();

    public static void main(String[] args) {
        CHECK.sentence("1: units below 2 becomes 2", () -> units(2, MIN, -2, -1, 0, 1));
        CHECK.sentence("1: units above 8 becomes 8", () -> units(8, 9, 10, 16, 32, 256, MAX));
        CHECK.sentence("1: units in 2..8 gives U", StartTest::unitsInside);
        CHECK.sentence("1: tokensPerUnit below 8 becomes 8", () -> tokens(8, MIN, -8, -1, 0, 1, 2, 7));
        CHECK.sentence("1: tokensPerUnit above 32 becomes 32", () -> tokens(32, 33, 34, 64, 256, MAX));
        CHECK.sentence("1: tokensPerUnit in 8..32 gives T", StartTest::tokensInside);
        CHECK.sentence("1: names below 4 becomes 4", () -> names(4, MIN, -4, -1, 0, 1, 3));
        CHECK.sentence("1: names above 16 becomes 16", () -> names(16, 17, 18, 31, 32, 256, MAX));
        CHECK.sentence("1: names in 4..16 gives N", StartTest::namesInside);
        CHECK.sentence("1: any int is accepted, also negative values and the extremes", StartTest::anyInt);
        CHECK.sentence("1: each argument has its own range", StartTest::ownRanges);
        CHECK.sentence("1: all units start empty (length 0)", StartTest::startEmpty);
        CHECK.sentence("1: before the first build every unit is UNIT_OK, has 0 defs and uses no name",
                StartTest::startUnits);
        CHECK.sentence("1: before the first build every name is ST_NODEF, owner -1, value 0, not changed",
                StartTest::startNames);
        CHECK.sentence("1: before the first build the results are those of all units empty",
                StartTest::startResultsAreThoseOfEmptyUnits);
        CHECK.end();
    }

    private static void units(int u, int... given) {
        for (int units : given) {
            sizes(units, 16, 8, u, 16, 8);
        }
    }

    private static void tokens(int t, int... given) {
        for (int tokens : given) {
            sizes(3, tokens, 8, 3, t, 8);
        }
    }

    private static void names(int n, int... given) {
        for (int names : given) {
            sizes(3, 16, names, 3, 16, n);
        }
    }

    private static void unitsInside() {
        for (int u = 2; u <= 8; u++) {
            units(u, u);
        }
    }

    private static void tokensInside() {
        for (int t = 8; t <= 32; t++) {
            tokens(t, t);
        }
    }

    private static void namesInside() {
        for (int n = 4; n <= 16; n++) {
            names(n, n);
        }
    }

    private static void anyInt() {
        int[] given = {MIN, MIN + 1, -1, 0, MAX - 1, MAX};
        for (int units : given) {
            for (int tokens : given) {
                for (int names : given) {
                    sizes(units, tokens, names, units > 0 ? 8 : 2, tokens > 0 ? 32 : 8, names > 0 ? 16 : 4);
                }
            }
        }
    }

    private static void ownRanges() {
        sizes(2, 8, 4, 2, 8, 4);
        sizes(8, 32, 16, 8, 32, 16);
        sizes(4, 4, 4, 4, 8, 4);
        sizes(8, 8, 8, 8, 8, 8);
        sizes(16, 16, 16, 8, 16, 16);
        sizes(32, 2, 8, 8, 8, 8);
    }

    /** The sizes show in what is taken and what is refused. */
    private static void sizes(int units, int tokens, int names, int u, int t, int n) {
        String made = "new (" + units + ", " + tokens + ", " + names + ")";
        NameHashBuilder x = CHECK.object(units, tokens, names);
        CHECK.due(made + ": getLength(U-1)", x.getLength(u - 1), 0);
        CHECK.due(made + ": getLength(U)", x.getLength(u), -1);
        CHECK.due(made + ": append to unit U", x.append(u, 1, 0), false);
        CHECK.due(made + ": append of name N-1", x.append(0, 2, n - 1), true);
        CHECK.due(made + ": append of name N", x.append(0, 2, n), false);
        for (int i = 0; i < t; i++) {
            CHECK.due(made + ": append no. " + i, x.append(u - 1, 1, i), true);
        }
        CHECK.due(made + ": append no. T", x.append(u - 1, 1, 0), false);
        CHECK.due(made + ": getLength of a full unit", x.getLength(u - 1), t);
        lastNameInLastUnit(made, x, u, n);
    }

    private static void lastNameInLastUnit(String made, NameHashBuilder x, int u, int n) {
        CHECK.fill(x, u - 1, "a = " + (char) ('a' + n - 1) + " ;");
        x.setToken(u - 1, 0, 2, n - 1);
        x.build();
        CHECK.dueName(made, x, n - 1, u - 1, NameHashBuilder.ST_CYCLE, 0);
        CHECK.due(made + ": usesName(U-1, N-1)", x.usesName(u - 1, n - 1), true);
        CHECK.due(made + ": isChanged(N-1)", x.isChanged(n - 1), true);
    }

    private static void startEmpty() {
        for (int u = 2; u <= 8; u++) {
            NameHashBuilder x = CHECK.object(u, 32, 16);
            for (int unit = 0; unit < u; unit++) {
                CHECK.dueTokens("at the start", x, unit, "");
            }
        }
    }

    private static void startUnits() {
        for (int u = 2; u <= 8; u++) {
            NameHashBuilder x = CHECK.object(u, 8, 16);
            dueStartUnits("at the start", x, u);
            CHECK.fill(x, u - 1, "a = b ; =");
            CHECK.fill(x, 0, "a = a ;");
            dueStartUnits("edited, not built", x, u);
        }
    }

    private static void dueStartUnits(String when, NameHashBuilder x, int u) {
        for (int unit = 0; unit < u; unit++) {
            CHECK.dueUnit(when, x, unit, NameHashBuilder.UNIT_OK, 0);
            CHECK.dueUses(when, x, unit, "");
        }
    }

    private static void startNames() {
        for (int n = 4; n <= 16; n++) {
            NameHashBuilder x = CHECK.object(2, 8, n);
            dueStartNames("at the start", x, n);
            CHECK.fill(x, 0, "a = 3 ; d = d ;");
            dueStartNames("edited, not built", x, n);
        }
    }

    private static void dueStartNames(String when, NameHashBuilder x, int n) {
        for (int name = 0; name < n; name++) {
            CHECK.dueName(when, x, name, -1, NameHashBuilder.ST_NODEF, 0);
        }
        CHECK.dueChanged(when, x, "");
    }

    private static void startResultsAreThoseOfEmptyUnits() {
        NameHashBuilder x = CHECK.object(8, 32, 16);
        String start = Check.state(x);
        CHECK.dueBuild("all units empty", x, "");
        CHECK.same("all units empty, built", Check.state(x), start);
    }
}
