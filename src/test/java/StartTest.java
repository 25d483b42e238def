/** Promise 1: the clamped sizes and the start results. */
public final class StartTest {
    private static final int MIN = Integer.MIN_VALUE;
    private static final int MAX = Integer.MAX_VALUE;

    private static final Check CHECK = new Check();

    public static void main(String[] args) {
        int[][] units = {{MIN, 2}, {-1, 2}, {0, 2}, {1, 2}, {2, 2}, {3, 3}, {7, 7}, {8, 8}, {9, 8}, {MAX, 8}};
        for (int[] row : units) {
            sizes(row[0], 16, 8, row[1], 16, 8);
        }
        int[][] tokens = {{MIN, 8}, {-1, 8}, {0, 8}, {7, 8}, {8, 8}, {9, 9}, {31, 31}, {32, 32}, {33, 32}, {MAX, 32}};
        for (int[] row : tokens) {
            sizes(3, row[0], 8, 3, row[1], 8);
        }
        int[][] names = {{MIN, 4}, {-1, 4}, {0, 4}, {3, 4}, {4, 4}, {5, 5}, {15, 15}, {16, 16}, {17, 16}, {MAX, 16}};
        for (int[] row : names) {
            sizes(3, 16, row[0], 3, 16, row[1]);
        }
        sizes(MIN, MIN, MIN, 2, 8, 4);
        sizes(MAX, MAX, MAX, 8, 32, 16);
        CHECK.end();
    }

    private static void sizes(int units, int tokens, int names, int u, int t, int n) {
        String made = "new (" + units + ", " + tokens + ", " + names + ")";
        NameHashBuilder x = new NameHashBuilder(units, tokens, names);
        startResults(made, x, u, n);
        CHECK.due(made + ": getLength(U-1)", x.getLength(u - 1), 0);
        CHECK.due(made + ": getLength(U)", x.getLength(u), -1);
        CHECK.due(made + ": name N-1", x.append(0, 2, n - 1), true);
        CHECK.due(made + ": name N", x.append(0, 2, n), false);
        for (int i = 0; i < t; i++) {
            CHECK.due(made + ": append no. " + i, x.append(u - 1, 1, i), true);
        }
        CHECK.due(made + ": append no. T", x.append(u - 1, 1, 0), false);
        CHECK.due(made + ": getLength of a full unit", x.getLength(u - 1), t);
        startResults(made + " and edits", x, u, n);
    }

    private static void startResults(String when, NameHashBuilder x, int u, int n) {
        for (int unit = 0; unit < u; unit++) {
            CHECK.due(when + ": getUnitError(" + unit + ")", x.getUnitError(unit), NameHashBuilder.UNIT_OK);
            CHECK.due(when + ": getDefCount(" + unit + ")", x.getDefCount(unit), 0);
            for (int name = 0; name < n; name++) {
                CHECK.due(when + ": usesName(" + unit + ", " + name + ")", x.usesName(unit, name), false);
            }
        }
        for (int name = 0; name < n; name++) {
            CHECK.dueName(when, x, name, -1, NameHashBuilder.ST_NODEF, 0);
            CHECK.due(when + ": isChanged(" + name + ")", x.isChanged(name), false);
        }
    }
}
