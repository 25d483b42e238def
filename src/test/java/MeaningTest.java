/** Promise 7, the meaning in its six points; promises 10 to 16 after builds. */
public final class MeaningTest {
    private static final int NODEF = NameHashBuilder.ST_NODEF;
    private static final int OK = NameHashBuilder.ST_OK;
    private static final int UNDEF = NameHashBuilder.ST_UNDEF;
    private static final int CYCLE = NameHashBuilder.ST_CYCLE;
    private static final int BROKEN = NameHashBuilder.ST_BROKEN;
    private static final int MIN = Integer.MIN_VALUE;
    private static final int MAX = Integer.MAX_VALUE;
    private static final int U = 4;
    private static final int N = 8;

    private static final Check CHECK = new Check();

    public static void main(String[] args) {
        unitsWithErrors();
        owners();
        ignoredDefs();
        uses();
        cycles();
        statusOrder();
        brokenChains();
        longChains();
        arithmetic();
        changes();
        freshObject();
        outsideQueries();
        CHECK.end();
    }

    private static NameHashBuilder filled(String... units) {
        NameHashBuilder x = new NameHashBuilder(U, 32, N);
        for (int unit = 0; unit < units.length; unit++) {
            CHECK.fill(x, unit, units[unit]);
        }
        return x;
    }

    private static NameHashBuilder built(String... units) {
        NameHashBuilder x = filled(units);
        x.build();
        return x;
    }

    private static void dueStatuses(String when, NameHashBuilder x, int... statuses) {
        for (int name = 0; name < statuses.length; name++) {
            CHECK.due(when + ": getStatus(" + name + ")", x.getStatus(name), statuses[name]);
            if (statuses[name] != OK) {
                CHECK.due(when + ": getValue(" + name + ")", x.getValue(name), 0);
            }
        }
    }

    private static void dueUses(String when, NameHashBuilder x, int unit, String names) {
        for (int name = 0; name < N; name++) {
            boolean used = names.indexOf('a' + name) >= 0;
            CHECK.due(when + ": usesName(" + unit + ", " + name + ")", x.usesName(unit, name), used);
        }
    }

    private static void unitsWithErrors() {
        NameHashBuilder x = built("a = b ; c = 1", "b = 2 ;", "d = a ;");
        CHECK.due("error: getUnitError(0)", x.getUnitError(0), 7);
        CHECK.due("error: getDefCount(0)", x.getDefCount(0), 0);
        dueUses("error", x, 0, "");
        dueUses("error", x, 2, "a");
        CHECK.dueName("error", x, 0, -1, NODEF, 0);
        CHECK.dueName("error", x, 1, 1, OK, 2);
        CHECK.dueName("error", x, 3, 2, UNDEF, 0);
        CHECK.due("mend unit 0", x.append(0, 9, 0), true);
        CHECK.due("mended: build()", x.build(), 3);
        CHECK.due("mended: getUnitError(0)", x.getUnitError(0), -1);
        CHECK.due("mended: getDefCount(0)", x.getDefCount(0), 2);
        dueUses("mended", x, 0, "b");
        CHECK.dueName("mended", x, 0, 0, OK, 2);
        CHECK.dueName("mended", x, 3, 2, OK, 2);
    }

    private static void owners() {
        NameHashBuilder x = built("", "a = 1 ; b = 2 ;", "b = 3 ; c = 4 ;", "a = 5 ; d = 6 ; c = 7 ;");
        CHECK.dueName("owners", x, 0, 1, OK, 1);
        CHECK.dueName("owners", x, 1, 1, OK, 2);
        CHECK.dueName("owners", x, 2, 2, OK, 4);
        CHECK.dueName("owners", x, 3, 3, OK, 6);
        CHECK.dueName("owners", x, 4, -1, NODEF, 0);
        CHECK.fill(x, 1, "a = 1 ; b = 2 ; ;");
        CHECK.due("owner with an error: build()", x.build(), 2);
        CHECK.dueName("owner with an error", x, 0, 3, OK, 5);
        CHECK.dueName("owner with an error", x, 1, 2, OK, 3);
        CHECK.fill(x, 0, "c = 4 ;");
        CHECK.due("owner alone: build()", x.build(), 1);
        CHECK.dueName("owner alone", x, 2, 0, OK, 4);
    }

    private static void ignoredDefs() {
        NameHashBuilder x = built("a = 1 ; a = a ; a = h ;", "a = b ; b = 2 ;", "b = b ; c = a + b ;");
        CHECK.dueName("ignored", x, 0, 0, OK, 1);
        CHECK.dueName("ignored", x, 1, 1, OK, 2);
        CHECK.dueName("ignored", x, 2, 2, OK, 3);
        CHECK.due("ignored: getDefCount(0)", x.getDefCount(0), 3);
        CHECK.due("ignored: getDefCount(1)", x.getDefCount(1), 2);
        CHECK.due("ignored: getDefCount(2)", x.getDefCount(2), 2);
        dueUses("ignored", x, 0, "ah");
        dueUses("ignored", x, 1, "b");
        dueUses("ignored", x, 2, "ab");
    }

    private static void uses() {
        NameHashBuilder x = built("a = b + b * ( c - - d ) ; e = 1 ;", "h = h ;", "f = 3 ;");
        dueUses("uses", x, 0, "bcd");
        dueUses("uses", x, 1, "h");
        dueUses("uses", x, 2, "");
        dueUses("uses", x, 3, "");
        CHECK.fill(x, 0, "a = 1 ;");
        dueUses("edited, not built", x, 0, "bcd");
        x.build();
        dueUses("edited and built", x, 0, "");
    }

    private static void cycles() {
        dueStatuses("own name", built("a = a ;"), CYCLE, NODEF);
        dueStatuses("times 0", built("a = 0 * a ;"), CYCLE, NODEF);
        dueStatuses("two", built("a = b ;", "b = a ;"), CYCLE, CYCLE);
        dueStatuses("into a cycle", built("a = b ; b = c ;", "c = b ; d = a ;"), BROKEN, CYCLE, CYCLE, BROKEN);
        dueStatuses("out of a cycle", built("a = b + c ; b = a ; c = 4 ;"), CYCLE, CYCLE, OK);
        dueStatuses("two cycles", built("a = b ; b = a + c ; c = d ; d = c ;"), CYCLE, CYCLE, CYCLE, CYCLE);
        dueStatuses("between cycles", built("a = a + b ; b = c ; c = c ;"), CYCLE, BROKEN, CYCLE);
        dueStatuses("ring downwards", built("a = h ; h = g ; g = f ; f = e ;", "e = d ; d = c ; c = b ; b = a ;"),
                CYCLE, CYCLE, CYCLE, CYCLE, CYCLE, CYCLE, CYCLE, CYCLE);
        dueStatuses("ring upwards", built("a = b ; b = c ; c = d ; d = e ;", "e = f ; f = g ; g = h ; h = a ;"),
                CYCLE, CYCLE, CYCLE, CYCLE, CYCLE, CYCLE, CYCLE, CYCLE);
        dueStatuses("diamond", built("a = b + c ; b = d ; c = d ; d = 1 ;"), OK, OK, OK, OK);
        dueStatuses("cut by an ignored def", built("a = 1 ; b = a ;", "a = b ;"), OK, OK);
        dueStatuses("cut by an undefined name", built("a = b ;", "b = a"), UNDEF, NODEF);
    }

    private static void statusOrder() {
        dueStatuses("cycle before undef", built("a = a + h ;"), CYCLE);
        dueStatuses("cycle before broken", built("a = a + b ; b = b ;"), CYCLE, CYCLE);
        dueStatuses("undef before broken", built("a = b + h ; b = b ;"), UNDEF, CYCLE);
        dueStatuses("undef before ok", built("a = 1 + h ;"), UNDEF);
        dueStatuses("broken by undef", built("a = b ; b = h ;"), BROKEN, UNDEF);
        dueStatuses("undef times 0", built("a = 0 * h ;"), UNDEF);
    }

    private static void brokenChains() {
        dueStatuses("broken downwards", built("a = b ; b = c ; c = d ; d = h ; e = 1 + f ; f = 2 ;"),
                BROKEN, BROKEN, BROKEN, UNDEF, OK, OK);
        dueStatuses("broken upwards", built("a = a ; b = a ; c = b ; d = c + e ; e = 1 ;"),
                CYCLE, BROKEN, BROKEN, BROKEN, OK);
        dueStatuses("ok and broken", built("a = e + b ; b = c ; c = h ; e = 1 ;"),
                BROKEN, BROKEN, UNDEF, NODEF, OK);
        NameHashBuilder x = built("a = b ; b = h ; c = c ; d = c ;");
        dueStatuses("to be mended", x, BROKEN, UNDEF, CYCLE, BROKEN);
        CHECK.fill(x, 0, "a = b ; b = 3 ; c = 4 ; d = c ;");
        CHECK.due("mended: build()", x.build(), 4);
        dueStatuses("mended", x, OK, OK, OK, OK);
    }

    /** As many names as there can be, each using the next or the one before. */
    private static void longChains() {
        for (boolean upwards : new boolean[] {true, false}) {
            NameHashBuilder x = new NameHashBuilder(8, 32, 16);
            for (int i = 0; i < 16; i++) {
                int name = upwards ? i : 15 - i;
                int used = upwards ? i - 1 : 16 - i;
                x.append(i / 4, 2, name);
                x.append(i / 4, 8, 0);
                x.append(i / 4, i == 0 ? 1 : 2, i == 0 ? 100 : used);
                x.append(i / 4, 3, 0);
                x.append(i / 4, 1, 1);
                x.append(i / 4, 9, 0);
            }
            CHECK.due("chain: build()", x.build(), 16);
            for (int i = 0; i < 16; i++) {
                CHECK.dueName("chain upwards " + upwards, x, upwards ? i : 15 - i, i / 4, OK, 101 + i);
            }
        }
    }

    private static void dueValue(String expr, int value) {
        NameHashBuilder x = built("h = " + expr + " ;", "a = 5 ; b = -7 ; c = 2147483647 ; d = -2147483648 ;");
        CHECK.dueName(expr, x, 7, 0, OK, value);
    }

    private static void arithmetic() {
        dueValue("0", 0);
        dueValue("-2147483648", MIN);
        dueValue("2147483647", MAX);
        dueValue("a", 5);
        dueValue("- a", -5);
        dueValue("- - a", 5);
        dueValue("- - - a", -5);
        dueValue("2 + 3 * 4", 14);
        dueValue("2 * 3 + 4", 10);
        dueValue("10 - 3 - 2", 5);
        dueValue("10 - 3 + 2", 9);
        dueValue("10 - ( 3 - 2 )", 9);
        dueValue("( 2 + 3 ) * 4", 20);
        dueValue("2 * ( 3 + 4 ) * 5", 70);
        dueValue("- ( 2 + 3 ) * 4", -20);
        dueValue("- 2 + 3", 1);
        dueValue("2 - - 3", 5);
        dueValue("2 * - 3", -6);
        dueValue("2 * - - 3 - 1", 5);
        dueValue("1 - 2 * 3 - 4 * 5", -25);
        dueValue("1 - 2 * ( 3 - 4 * ( 5 - 6 ) ) - 7", -20);
        dueValue("( ( ( a ) ) )", 5);
        dueValue("a * b - b * a + a", 5);
        dueValue("( a - b ) * ( a + b )", -24);
        dueValue("c + 1", MIN);
        dueValue("d - 1", MAX);
        dueValue("- d", MIN);
        dueValue("0 - d", MIN);
        dueValue("d * -1", MIN);
        dueValue("c * c", 1);
        dueValue("d * d", 0);
        dueValue("c * 2", -2);
        dueValue("65536 * 65536 + 3", 3);
        dueValue("46341 * 46341", -2147479015);
    }

    private static void dueBuild(String when, NameHashBuilder x, String changedNames) {
        CHECK.due(when + ": build()", x.build(), changedNames.length());
        for (int name = 0; name < N; name++) {
            boolean changed = changedNames.indexOf('a' + name) >= 0;
            CHECK.due(when + ": isChanged(" + name + ")", x.isChanged(name), changed);
        }
    }

    private static void changes() {
        NameHashBuilder x = filled("a = 1 ; b = a + 1 ;", "c = b * 0 ;");
        dueBuild("first", x, "abc");
        dueBuild("the same", x, "");
        CHECK.fill(x, 0, "b = 1 + a ; a = 2 - 1 ;");
        dueBuild("other tokens, same triples", x, "");
        CHECK.fill(x, 0, "a = 3 ; b = a + 1 ;");
        CHECK.due("edits: isChanged(0)", x.isChanged(0), false);
        dueBuild("values", x, "ab");
        CHECK.fill(x, 0, "b = 4 ;");
        CHECK.fill(x, 2, "a = 3 ;");
        CHECK.due("edits: isChanged(0)", x.isChanged(0), true);
        dueBuild("owner alone", x, "a");
        CHECK.fill(x, 1, "c = h ;");
        dueBuild("status alone", x, "c");
        CHECK.fill(x, 1, "c = c ;");
        dueBuild("status alone, neither ok", x, "c");
        CHECK.fill(x, 1, "h = 0 ;");
        dueBuild("value 0", x, "ch");
        CHECK.fill(x, 0, "");
        CHECK.fill(x, 1, "");
        dueBuild("cleared", x, "bh");
        CHECK.fill(x, 0, "b = 4 ;");
        dueBuild("back again", x, "b");
    }

    /** Whatever came before, the results are those of a new object with the same tokens. */
    private static void freshObject() {
        NameHashBuilder x = built("a = a ; b = h ; c = b ;", "d = ( 1", "e = 2 ; f = e ; e = f ;", "g = 1 ; h = 2 ;");
        x.build();
        String[] units = {"d = 5 ;", "a = d - g ; g = 2 * h ;", "h = 1 ; b = 1 +", "c = e ;"};
        for (int unit = 0; unit < U; unit++) {
            CHECK.fill(x, unit, units[unit]);
        }
        x.build();
        x.build();
        NameHashBuilder fresh = built(units);
        fresh.build();
        CHECK.same("fresh", Check.results(x, U, N), Check.results(fresh, U, N));
        CHECK.dueName("fresh", x, 0, 1, BROKEN, 0);
        CHECK.dueName("fresh", x, 2, 3, UNDEF, 0);
        CHECK.dueName("fresh", x, 3, 0, OK, 5);
        CHECK.dueName("fresh", x, 7, -1, NODEF, 0);
    }

    private static void outsideQueries() {
        String[] units = {"a = 1 ; d = a ;", "b = a ;", "c = b ;", "d = c ; h = h ;"};
        NameHashBuilder x = built(units);
        String before = Check.results(x, U, N);
        for (int unit : new int[] {MIN, -1, U, 8, 256, MAX}) {
            CHECK.due("getUnitError(" + unit + ")", x.getUnitError(unit), NameHashBuilder.BAD_UNIT);
            CHECK.due("getDefCount(" + unit + ")", x.getDefCount(unit), -1);
            CHECK.due("usesName(" + unit + ", 0)", x.usesName(unit, 0), false);
        }
        // 32 + n is the same shift as n: a name outside must not be taken for one inside.
        for (int name : new int[] {MIN, -32, -1, N, 16, 32, 33, 64, MAX}) {
            CHECK.dueName("outside", x, name, -1, NODEF, 0);
            CHECK.due("isChanged(" + name + ")", x.isChanged(name), false);
            for (int unit = -1; unit <= U; unit++) {
                CHECK.due("usesName(" + unit + ", " + name + ")", x.usesName(unit, name), false);
            }
        }
        CHECK.same("queries", Check.results(x, U, N), before);
        for (int unit = 0; unit < U; unit++) {
            CHECK.dueTokens("queries", x, unit, units[unit]);
        }
    }
}
