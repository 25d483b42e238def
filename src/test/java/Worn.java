import java.util.Arrays;

/**
 * Objects with a long run of calls behind them: good units and units with errors, full and cleared,
 * edited, refused calls, and a build after each. At the end all units are empty and built twice, so
 * that such an object tells just what a new one tells, and each sentence must hold of both alike.
 */
final class Worn {
    private static final int ROUNDS = 8;
    private static final String[] DEFS = {
        "a = 5 ;", "b = a ;", "c = b - 3 ;", "d = c ;", "h = -2147483648 ;", "e = h * ( d - a ) ;", "p = e ;",
        "b = b ;", "d = a ;", "a = d ;", "c = b ;", "o = n ;", "g = - h ;", "n = p ;", "p = n ;", "f = g + h ;",
        "c = " + "( ".repeat(14) + "9 " + ") ".repeat(14) + ";", "b = d ;", "d = - -7 ;", "i = j ;", "j = 46341 ;",
        "k = j * j ;", "l = k ;", "a = " + "- ".repeat(28) + "1 ;", "m = l + a ;", "a = 0 ;",
    };
    private static final int[][][] DEF_TOKENS = Arrays.stream(DEFS).map(Worn::tokens).toArray(int[][][]::new);
    private static final int[] NUMBERS = {Check.MIN, -1, 0, 1, 3, 7, 8, 9, 16, 31, 32, Check.MAX};

    private Worn() {
    }

    private static int[][] tokens(String def) {
        return Arrays.stream(Check.words(def))
                .map(word -> new int[] {Check.kindOf(word), Check.valueOf(word)})
                .toArray(int[][]::new);
    }

    static NameHashBuilder object(int units, int tokensPerUnit, int names) {
        NameHashBuilder x = new NameHashBuilder(units, tokensPerUnit, names);
        for (int round = 0; round < ROUNDS; round++) {
            for (int unit = 0; unit < 8; unit++) {
                fill(x, unit, 7 * round + 2 * unit);
            }
            x.build();
            edit(x, round);
            x.build();
        }
        empty(x);
        x.build();
        // The second one finds nothing changed, as it is with a new object.
        x.build();
        return x;
    }

    /** Every fifth filling ends with an error. */
    private static void fill(NameHashBuilder x, int unit, int first) {
        x.clearUnit(unit);
        for (int i = 0; i < DEFS.length; i++) {
            addDef(x, unit, DEF_TOKENS[(first + i) % DEFS.length]);
        }
        if (first % 5 == 4) {
            x.setToken(unit, x.getLength(unit) - 1, 6, first);
        }
    }

    /** A def that doesn't fit, or has a name outside, is taken out again. */
    private static void addDef(NameHashBuilder x, int unit, int[][] def) {
        boolean taken = true;
        int added = 0;
        for (int[] token : def) {
            boolean appended = x.append(unit, token[0], token[1]);
            taken = taken && appended;
            added += appended ? 1 : 0;
        }
        for (int i = 0; i < added && !taken; i++) {
            x.deleteToken(unit, x.getLength(unit) - 1);
        }
    }

    /** Some of these calls are taken, the others refused. */
    private static void edit(NameHashBuilder x, int round) {
        int unit = round % 8;
        for (int number : NUMBERS) {
            x.append(number, 1, number);
            x.append(unit, number, number);
            x.setToken(number, 2, 1, number);
            x.setToken(unit, number, 2, number);
            x.deleteToken(number, 40 - round);
            x.deleteToken(unit, number);
            x.insertToken(number, 2, 4, number);
            x.insertToken(unit, number, 1 + unit, number);
            x.clearUnit(number * 2 + round);
        }
    }

    private static void empty(NameHashBuilder x) {
        for (int unit = 0; unit < 8; unit++) {
            for (int i = 0; i < 32 && unit % 2 == 0; i++) {
                x.deleteToken(unit, 0);
            }
            x.clearUnit(unit);
        }
    }
}
