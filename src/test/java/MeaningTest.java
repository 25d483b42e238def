/** Promise 7, points 1 to 5 of the meaning: units with errors, owners, cycles, statuses, values. */
public final class MeaningTest {
    private static final int NODEF = NameHashBuilder.ST_NODEF;
    private static final int OK = NameHashBuilder.ST_OK;
    private static final int UNDEF = NameHashBuilder.ST_UNDEF;
    private static final int CYCLE = NameHashBuilder.ST_CYCLE;
    private static final int BROKEN = NameHashBuilder.ST_BROKEN;
    private static final int MIN = Check.MIN;
    private static final int MAX = Check.MAX;

    private static final Check CHECK = new Check();

    public static void main(String[] args) {
        errors();
        owners();
        graph();
        statuses();
        values();
        CHECK.end();
    }

    private static void errors() {
        CHECK.sentence("7.1: a unit with an error: its def count is 0", MeaningTest::errorDefCount);
        CHECK.sentence("7.1: a unit with an error uses no names", MeaningTest::errorUses);
        CHECK.sentence("7.1: a unit with an error contributes nothing: it owns no name", MeaningTest::errorOwners);
        CHECK.sentence("7.1: a unit with an error contributes nothing, all units alike", MeaningTest::allUnitsWrong);
        CHECK.sentence("7.1: an error-free unit's def count is its number of defs", MeaningTest::defCounts);
    }

    private static void owners() {
        CHECK.sentence("7.2: the owner is the least unit index that holds a def", MeaningTest::leastUnit);
        CHECK.sentence("7.2: the least among error-free units", MeaningTest::leastErrorFreeUnit);
        CHECK.sentence("7.2: or -1 if there is none", MeaningTest::noOwner);
        CHECK.sentence("7.2: of that unit's defs the first one is the definition", MeaningTest::firstDef);
        CHECK.sentence("7.2: all other defs are ignored for owners, statuses and values", MeaningTest::ignoredDefs);
        CHECK.sentence("7.2: ignored defs still count in getDefCount", MeaningTest::ignoredDefsCount);
        CHECK.sentence("7.2: ignored defs still count in usesName", MeaningTest::ignoredDefsUse);
    }

    private static void graph() {
        CHECK.sentence("7.3: an edge n -> m when both have an owner", MeaningTest::edgesAmongOwned);
        CHECK.sentence("7.3: a path of one or more edges leads back", MeaningTest::paths);
        CHECK.sentence("7.3: a path of as many edges as there are names", MeaningTest::longestCycles);
        CHECK.sentence("7.3: a name that only leads to a cycle is not on it", MeaningTest::besideCycles);
        CHECK.sentence("7.3: a definition using its own name is such a path", MeaningTest::ownName);
        CHECK.sentence("7.3: an ignored def makes no edge", MeaningTest::ignoredEdges);
    }

    private static void statuses() {
        CHECK.sentence("7.4: ST_NODEF comes first: n has no owner", MeaningTest::nodefFirst);
        CHECK.sentence("7.4: ST_CYCLE comes before ST_UNDEF", MeaningTest::cycleBeforeUndef);
        CHECK.sentence("7.4: ST_CYCLE comes before ST_BROKEN", MeaningTest::cycleBeforeBroken);
        CHECK.sentence("7.4: ST_UNDEF comes before ST_BROKEN", MeaningTest::undefBeforeBroken);
        CHECK.sentence("7.4: ST_UNDEF: uses a name that has no owner", MeaningTest::undef);
        CHECK.sentence("7.4: ST_BROKEN: uses a name whose status is not ST_OK", MeaningTest::broken);
        CHECK.sentence("7.4: ST_BROKEN through chains", MeaningTest::brokenChains);
        CHECK.sentence("7.4: ST_OK otherwise", MeaningTest::ok);
        CHECK.sentence("7.4: this is well founded: chains of all names", MeaningTest::longChains);
    }

    private static void values() {
        CHECK.sentence("7.5: the value is 0 unless the status is ST_OK", MeaningTest::zeroUnlessOk);
        CHECK.sentence("7.5: NUM gives its value", MeaningTest::literals);
        CHECK.sentence("7.5: NAME m gives the value of m", MeaningTest::names);
        CHECK.sentence("7.5: '-' unary gives 0 minus the operand", MeaningTest::minusSigns);
        CHECK.sentence("7.5: 0 minus Integer.MIN_VALUE is Integer.MIN_VALUE", MeaningTest::minusLeast);
        CHECK.sentence("7.5: '+' wraps", MeaningTest::sumsWrap);
        CHECK.sentence("7.5: '-' wraps", MeaningTest::differencesWrap);
        CHECK.sentence("7.5: '*' wraps", MeaningTest::productsWrap);
        CHECK.sentence("7.5: '+' and '-' are left associative", MeaningTest::sumsFromTheLeft);
        CHECK.sentence("7.5: '*' binds more than '+' and '-', a minus sign more than '*'", MeaningTest::binding);
        CHECK.sentence("7.5: parentheses", MeaningTest::parentheses);
        CHECK.sentence("7.5: the deepest and the longest expr that a unit holds", MeaningTest::greatestExprs);
    }

    private static void errorDefCount() {
        CHECK.dueUnit("error at the end", CHECK.built("a = 1 ; b = 2 ; c"), 0, 9, 0);
        CHECK.dueUnit("error at the start", CHECK.built("= a = 1 ; b = 2 ;"), 0, 0, 0);
        CHECK.dueUnit("error in the middle", CHECK.built("a = 1 ; b 2 ; c = 3 ;"), 0, 5, 0);
        NameHashBuilder x = CHECK.built("a = 1 ; b = 2 ;");
        CHECK.dueUnit("good", x, 0, -1, 2);
        CHECK.due("append", x.append(0, 9, 0), true);
        x.build();
        CHECK.dueUnit("spoilt", x, 0, 8, 0);
    }

    private static void errorUses() {
        NameHashBuilder x = CHECK.built("a = b ; c = d", "a = b ; e = f ;");
        CHECK.dueUses("error", x, 0, "");
        CHECK.dueUses("no error", x, 1, "bf");
        CHECK.due("append", x.append(0, 9, 0), true);
        CHECK.due("deleteToken", x.deleteToken(1, 7), true);
        x.build();
        CHECK.dueUses("mended", x, 0, "bd");
        CHECK.dueUses("spoilt", x, 1, "");
    }

    private static void errorOwners() {
        NameHashBuilder x = CHECK.built("a = b ; c = 1", "b = 2 ;", "d = a ;");
        CHECK.dueName("error", x, 0, -1, NODEF, 0);
        CHECK.dueName("error", x, 1, 1, OK, 2);
        CHECK.dueName("error", x, 2, -1, NODEF, 0);
        CHECK.dueName("error", x, 3, 2, UNDEF, 0);
        CHECK.due("append", x.append(0, 9, 0), true);
        CHECK.dueBuild("mended", x, "acd");
        CHECK.dueName("mended", x, 0, 0, OK, 2);
        CHECK.dueName("mended", x, 2, 0, OK, 1);
        CHECK.dueName("mended", x, 3, 2, OK, 2);
        CHECK.due("deleteToken", x.deleteToken(0, 0), true);
        CHECK.dueBuild("spoilt", x, "acd");
        CHECK.dueName("spoilt", x, 0, -1, NODEF, 0);
    }

    private static void allUnitsWrong() {
        NameHashBuilder x = CHECK.object(8, 32, 16);
        for (int unit = 0; unit < 8; unit++) {
            CHECK.fill(x, unit, "a = b ; b = 1 ; ;");
        }
        CHECK.dueBuild("all wrong", x, "");
        for (int unit = 0; unit < 8; unit++) {
            CHECK.dueUnit("all wrong", x, unit, 8, 0);
            CHECK.dueUses("all wrong", x, unit, "");
        }
        CHECK.due("deleteToken in the last unit", x.deleteToken(7, 8), true);
        CHECK.dueBuild("the last unit is good", x, "ab");
        CHECK.dueName("the last unit is good", x, 0, 7, OK, 1);
    }

    private static void defCounts() {
        for (int defs = 0; defs <= 8; defs++) {
            CHECK.dueUnit(defs + " defs", CHECK.built("a = 1 ; ".repeat(defs)), 0, -1, defs);
        }
        CHECK.dueUnit("long exprs", CHECK.built("a = ( b - c ) * 2 ; b = - - 1 ;"), 0, -1, 2);
    }

    private static void leastUnit() {
        NameHashBuilder x = CHECK.built("", "a = 1 ; b = 2 ;", "b = 3 ; c = 4 ;", "a = 5 ; d = 6 ; c = 7 ;");
        CHECK.dueName("owners", x, 0, 1, OK, 1);
        CHECK.dueName("owners", x, 1, 1, OK, 2);
        CHECK.dueName("owners", x, 2, 2, OK, 4);
        CHECK.dueName("owners", x, 3, 3, OK, 6);
        CHECK.fill(x, 0, "d = 8 ;");
        CHECK.dueBuild("a lower unit", x, "d");
        CHECK.dueName("a lower unit", x, 3, 0, OK, 8);
        CHECK.fill(x, 0, "");
        CHECK.dueBuild("the higher unit again", x, "d");
        CHECK.dueName("the higher unit again", x, 3, 3, OK, 6);
    }

    private static void leastErrorFreeUnit() {
        NameHashBuilder x = CHECK.built("a = 1 ; )", "a = 2", "a = 3 ;", "a = 4 ;");
        CHECK.dueName("two errors", x, 0, 2, OK, 3);
        CHECK.due("append", x.append(1, 9, 0), true);
        CHECK.dueBuild("one error", x, "a");
        CHECK.dueName("one error", x, 0, 1, OK, 2);
        CHECK.due("deleteToken", x.deleteToken(0, 4), true);
        CHECK.dueBuild("no error", x, "a");
        CHECK.dueName("no error", x, 0, 0, OK, 1);
    }

    private static void noOwner() {
        NameHashBuilder x = CHECK.built("a = b ;", "c = 1", "", "");
        CHECK.dueName("only used", x, 1, -1, NODEF, 0);
        CHECK.dueName("only in a unit with an error", x, 2, -1, NODEF, 0);
        CHECK.dueName("nowhere", x, 7, -1, NODEF, 0);
        CHECK.dueName("defined", x, 0, 0, UNDEF, 0);
    }

    private static void firstDef() {
        CHECK.dueName("two defs", CHECK.built("a = 1 ; a = 2 ;"), 0, 0, OK, 1);
        CHECK.dueName("a def between", CHECK.built("b = 5 ; a = b ; b = 6 ; a = 7 ;"), 0, 0, OK, 5);
        CHECK.dueName("in the last unit", CHECK.built("", "", "", "a = 3 ; a = 2 ; a = 1 ;"), 0, 3, OK, 3);
    }

    private static void ignoredDefs() {
        NameHashBuilder x = CHECK.built("a = 1 ; a = a ; a = h ;", "a = b ; b = 2 ;", "b = b ; c = a + b ;");
        CHECK.dueName("ignored", x, 0, 0, OK, 1);
        CHECK.dueName("ignored", x, 1, 1, OK, 2);
        CHECK.dueName("ignored", x, 2, 2, OK, 3);
        CHECK.dueName("used by an ignored def alone", x, 7, -1, NODEF, 0);
        CHECK.dueName("bad first, good then", CHECK.built("a = h ; a = 1 ;", "a = 2 ;"), 0, 0, UNDEF, 0);
    }

    private static void ignoredDefsCount() {
        NameHashBuilder x = CHECK.built("a = 1 ; a = a ; a = h ;", "a = b ; b = 2 ;", "b = b ;");
        CHECK.dueUnit("two of three ignored", x, 0, -1, 3);
        CHECK.dueUnit("one of two ignored", x, 1, -1, 2);
        CHECK.dueUnit("the only one ignored", x, 2, -1, 1);
    }

    private static void ignoredDefsUse() {
        NameHashBuilder x = CHECK.built("a = 1 ; a = c ; b = 2 ;", "a = d ; b = e + f ;");
        CHECK.dueUses("ignored in the owner", x, 0, "c");
        CHECK.dueUses("ignored in another unit", x, 1, "def");
    }

    private static void edgesAmongOwned() {
        CHECK.dueStatuses("one without an owner", CHECK.built("a = b ;", "b = a"), UNDEF, NODEF);
        CHECK.dueStatuses("both with an owner", CHECK.built("a = b ;", "b = a ;"), CYCLE, CYCLE);
        CHECK.dueStatuses("ring with a gap", CHECK.built("a = b ; b = c ; d = a ;"), BROKEN, UNDEF, NODEF, BROKEN);
    }

    private static void paths() {
        CHECK.dueStatuses("one edge", CHECK.built("a = a ;"), CYCLE, NODEF);
        CHECK.dueStatuses("two edges", CHECK.built("a = b ; b = a ;"), CYCLE, CYCLE);
        CHECK.dueStatuses("three edges", CHECK.built("a = b ;", "b = c ;", "c = a ;"), CYCLE, CYCLE, CYCLE);
        CHECK.dueStatuses("two cycles", CHECK.built("a = b ; b = a + c ; c = d ; d = c ;"),
                CYCLE, CYCLE, CYCLE, CYCLE);
        CHECK.dueStatuses("diamond", CHECK.built("a = b + c ; b = d ; c = d ; d = 1 ;"), OK, OK, OK, OK);
        CHECK.dueStatuses("diamond closed", CHECK.built("a = b + c ; b = d ; c = d ; d = a ;"),
                CYCLE, CYCLE, CYCLE, CYCLE);
    }

    private static void longestCycles() {
        for (int n = 4; n <= 16; n++) {
            ring(n, 1);
            ring(n, n - 1);
        }
        ring(16, 5);
    }

    /** Each name uses the one that is step further on; without one def the ring is no cycle. */
    private static void ring(int n, int step) {
        NameHashBuilder x = CHECK.object(8, 8, n);
        int last = n - 1;
        for (int name = 0; name < n; name++) {
            addDef(x, name / 2, name, (name + step) % n);
        }
        CHECK.due("ring: build()", x.build(), n);
        for (int name = 0; name < n; name++) {
            CHECK.dueName("ring of " + n + " by " + step, x, name, name / 2, CYCLE, 0);
        }
        CHECK.due("literal instead of a name", x.setToken(last / 2, last % 2 * 4 + 2, 1, 9), true);
        CHECK.due("cut ring: build()", x.build(), n);
        for (int name = 0; name < n; name++) {
            CHECK.dueName("cut ring of " + n + " by " + step, x, name, name / 2, OK, 9);
        }
    }

    private static void addDef(NameHashBuilder x, int unit, int name, int used) {
        CHECK.due("append", x.append(unit, 2, name), true);
        CHECK.due("append", x.append(unit, 8, 0), true);
        CHECK.due("append", x.append(unit, 2, used), true);
        CHECK.due("append", x.append(unit, 9, 0), true);
    }

    private static void besideCycles() {
        CHECK.dueStatuses("into a cycle", CHECK.built("a = b ; b = c ;", "c = b ; d = a ;"),
                BROKEN, CYCLE, CYCLE, BROKEN);
        CHECK.dueStatuses("out of a cycle", CHECK.built("a = b + c ; b = a ; c = 4 ;"), CYCLE, CYCLE, OK);
        CHECK.dueStatuses("between cycles", CHECK.built("a = a + b ; b = c ; c = c ;"), CYCLE, BROKEN, CYCLE);
    }

    private static void ownName() {
        CHECK.dueStatuses("alone", CHECK.built("a = a ;"), CYCLE);
        CHECK.dueStatuses("times 0", CHECK.built("a = 0 * a ;"), CYCLE);
        CHECK.dueStatuses("minus itself", CHECK.built("a = 1 + ( a - a ) ;"), CYCLE);
        CHECK.dueStatuses("the last name", CHECK.built("h = h ;"),
                NODEF, NODEF, NODEF, NODEF, NODEF, NODEF, NODEF, CYCLE);
    }

    private static void ignoredEdges() {
        CHECK.dueStatuses("in another unit", CHECK.built("a = 1 ; b = a ;", "a = b ;"), OK, OK);
        CHECK.dueStatuses("in the same unit", CHECK.built("a = 1 ; b = a ; a = b ;"), OK, OK);
        CHECK.dueStatuses("of the own name", CHECK.built("a = 1 ; a = a ;"), OK);
    }

    private static void nodefFirst() {
        CHECK.dueStatuses("own name, in a unit with an error", CHECK.built("a = a"), NODEF);
        CHECK.dueStatuses("undefined name, in a unit with an error", CHECK.built("a = h"), NODEF);
        CHECK.dueStatuses("used on a cycle", CHECK.built("b = b + a ;"), NODEF, CYCLE);
        CHECK.dueStatuses("no def at all", CHECK.built(""), NODEF, NODEF, NODEF, NODEF, NODEF, NODEF, NODEF, NODEF);
    }

    private static void cycleBeforeUndef() {
        CHECK.dueStatuses("own name first", CHECK.built("a = a + h ;"), CYCLE);
        CHECK.dueStatuses("undefined name first", CHECK.built("a = h + a ;"), CYCLE);
        CHECK.dueStatuses("two names", CHECK.built("a = b + h ; b = a ;"), CYCLE, CYCLE);
    }

    private static void cycleBeforeBroken() {
        CHECK.dueStatuses("of another cycle", CHECK.built("a = a + b ; b = b ;"), CYCLE, CYCLE);
        CHECK.dueStatuses("of an undef name", CHECK.built("a = b + a ; b = h ;"), CYCLE, UNDEF);
        CHECK.dueStatuses("of a broken name", CHECK.built("a = b + a ; b = c ; c = h ;"), CYCLE, BROKEN, UNDEF);
    }

    private static void undefBeforeBroken() {
        CHECK.dueStatuses("cycle and undefined", CHECK.built("a = b + h ; b = b ;"), UNDEF, CYCLE);
        CHECK.dueStatuses("undefined and cycle", CHECK.built("a = h + b ; b = b ;"), UNDEF, CYCLE);
        CHECK.dueStatuses("undef and undefined", CHECK.built("a = b + h ; b = h ;"), UNDEF, UNDEF);
        CHECK.dueStatuses("broken and undefined", CHECK.built("a = b + h ; b = c ; c = c ;"), UNDEF, BROKEN, CYCLE);
    }

    private static void undef() {
        CHECK.dueStatuses("beside a literal", CHECK.built("a = 1 + h ;"), UNDEF);
        CHECK.dueStatuses("beside an ok name", CHECK.built("a = b + h ; b = 1 ;"), UNDEF, OK);
        CHECK.dueStatuses("times 0", CHECK.built("a = 0 * h ;"), UNDEF);
        CHECK.dueStatuses("defined with an error", CHECK.built("a = b ;", "b = 1"), UNDEF, NODEF);
    }

    private static void broken() {
        CHECK.dueStatuses("by a cycle", CHECK.built("a = b ; b = b ;"), BROKEN, CYCLE);
        CHECK.dueStatuses("by undef", CHECK.built("a = b ; b = h ;"), BROKEN, UNDEF);
        CHECK.dueStatuses("by broken", CHECK.built("a = b ; b = c ; c = h ;"), BROKEN, BROKEN, UNDEF);
        CHECK.dueStatuses("beside an ok name", CHECK.built("a = c + b ; b = b ; c = 1 ;"), BROKEN, CYCLE, OK);
        CHECK.dueStatuses("times 0", CHECK.built("a = 0 * b ; b = b ;"), BROKEN, CYCLE);
    }

    private static void brokenChains() {
        CHECK.dueStatuses("downwards", CHECK.built("a = b ; b = c ; c = d ; d = h ; e = 1 + f ; f = 2 ;"),
                BROKEN, BROKEN, BROKEN, UNDEF, OK, OK);
        CHECK.dueStatuses("upwards", CHECK.built("a = a ; b = a ; c = b ; d = c + e ; e = 1 ;"),
                CYCLE, BROKEN, BROKEN, BROKEN, OK);
        NameHashBuilder x = CHECK.built("a = b ; b = h ; c = c ; d = c ;");
        CHECK.dueStatuses("to be mended", x, BROKEN, UNDEF, CYCLE, BROKEN);
        CHECK.fill(x, 0, "a = b ; b = 3 ; c = 4 ; d = c ;");
        CHECK.dueBuild("mended", x, "abcd");
        CHECK.dueStatuses("mended", x, OK, OK, OK, OK);
    }

    private static void ok() {
        CHECK.dueStatuses("literals", CHECK.built("a = 1 ; b = 0 ;"), OK, OK);
        CHECK.dueStatuses("ok names", CHECK.built("a = b + c ;", "b = c * c ;", "c = 2 ;"), OK, OK, OK);
        CHECK.dueStatuses("beside bad ones", CHECK.built("a = 1 ; b = b + a ; c = a + h ; d = a ;"),
                OK, CYCLE, UNDEF, OK);
    }

    /** As many names as there can be, each using the next or the one before. */
    private static void longChains() {
        for (boolean upwards : new boolean[] {true, false}) {
            for (int end : new int[] {1, 2}) {
                longChain(upwards, end);
            }
        }
    }

    /** The chain ends in the literal 9, or in a name that uses itself. */
    private static void longChain(boolean upwards, int endKind) {
        NameHashBuilder x = CHECK.object(8, 8, 16);
        for (int i = 0; i < 16; i++) {
            int name = upwards ? i : 15 - i;
            int used = i == 0 ? name : upwards ? i - 1 : 16 - i;
            addDef(x, i / 2, name, used);
        }
        CHECK.due("end of the chain", x.setToken(0, 2, endKind, endKind == 1 ? 9 : upwards ? 0 : 15), true);
        CHECK.due("chain: build()", x.build(), 16);
        for (int i = 0; i < 16; i++) {
            int status = endKind == 1 ? OK : i == 0 ? CYCLE : BROKEN;
            int value = endKind == 1 ? 9 : 0;
            CHECK.dueName("chain upwards " + upwards, x, upwards ? i : 15 - i, i / 2, status, value);
        }
    }

    private static void dueValue(String expr, int value) {
        NameHashBuilder x = CHECK.built("h = " + expr + " ;", "a = 5 ; b = -7 ; c = 2147483647 ; d = -2147483648 ;");
        CHECK.dueName(expr, x, 7, 0, OK, value);
    }

    private static void zeroUnlessOk() {
        NameHashBuilder x = CHECK.built("a = 5 ; b = 5 + a ; c = 5 + b ; d = c ;");
        CHECK.dueName("ok", x, 2, 0, OK, 15);
        CHECK.dueName("ok", x, 3, 0, OK, 15);
        CHECK.fill(x, 0, "a = 5 + h ; b = 5 + a ; c = 5 + c ;");
        CHECK.dueBuild("no longer ok", x, "abcd");
        CHECK.dueName("undef", x, 0, 0, UNDEF, 0);
        CHECK.dueName("broken", x, 1, 0, BROKEN, 0);
        CHECK.dueName("cycle", x, 2, 0, CYCLE, 0);
        CHECK.dueName("nodef", x, 3, -1, NODEF, 0);
    }

    private static void literals() {
        for (int literal : new int[] {MIN, MIN + 1, -1, 0, 1, MAX - 1, MAX}) {
            dueValue("" + literal, literal);
        }
    }

    private static void names() {
        dueValue("a", 5);
        dueValue("b", -7);
        dueValue("c", MAX);
        dueValue("d", MIN);
        dueValue("a * b - b * a + a", 5);
        dueValue("( a - b ) * ( a + b )", -24);
    }

    private static void minusSigns() {
        dueValue("- a", -5);
        dueValue("- b", 7);
        dueValue("- 0", 0);
        dueValue("- - a", 5);
        dueValue("- - - a", -5);
        dueValue("- -3", 3);
        dueValue("- ( a - 1 )", -4);
        dueValue("- c", MIN + 1);
    }

    private static void minusLeast() {
        dueValue("- -2147483648", MIN);
        dueValue("0 - -2147483648", MIN);
        dueValue("- d", MIN);
        dueValue("0 - d", MIN);
        dueValue("- - d", MIN);
        dueValue("- ( d )", MIN);
        dueValue("d * -1", MIN);
    }

    private static void sumsWrap() {
        dueValue("c + 1", MIN);
        dueValue("c + c", -2);
        dueValue("d + -1", MAX);
        dueValue("d + d", 0);
        dueValue("c + d", -1);
        dueValue("c + 1 + d", 0);
    }

    private static void differencesWrap() {
        dueValue("d - 1", MAX);
        dueValue("d - c", 1);
        dueValue("c - d", -1);
        dueValue("c - -1", MIN);
        dueValue("0 - c - 2", MAX);
        dueValue("-1 - d", MAX);
    }

    private static void productsWrap() {
        dueValue("c * c", 1);
        dueValue("d * d", 0);
        dueValue("d * c", MIN);
        dueValue("c * 2", -2);
        dueValue("d * 2", 0);
        dueValue("65536 * 65536 + 3", 3);
        dueValue("65536 * 32768", MIN);
        dueValue("46341 * 46341", -2147479015);
    }

    private static void sumsFromTheLeft() {
        dueValue("10 - 3 - 2", 5);
        dueValue("10 - 3 + 2", 9);
        dueValue("10 + 3 - 2 + 4", 15);
        dueValue("1 - 2 * 3 - 4 * 5", -25);
    }

    private static void binding() {
        dueValue("2 + 3 * 4", 14);
        dueValue("2 * 3 + 4", 10);
        dueValue("20 - 3 * 4", 8);
        dueValue("- 2 + 3", 1);
        dueValue("- 2 * 3 + 1", -5);
        dueValue("2 - - 3", 5);
        dueValue("2 * - 3", -6);
        dueValue("2 * - - 3 - 1", 5);
    }

    private static void parentheses() {
        dueValue("10 - ( 3 - 2 )", 9);
        dueValue("( 2 + 3 ) * 4", 20);
        dueValue("2 * ( 3 + 4 ) * 5", 70);
        dueValue("- ( 2 + 3 ) * 4", -20);
        dueValue("1 - 2 * ( 3 - 4 * ( 5 - 6 ) ) - 7", -20);
        dueValue("( ( ( a ) ) )", 5);
        dueValue("( c + 1 ) * ( d - 1 )", MIN);
    }

    private static void greatestExprs() {
        dueValue("( ".repeat(14) + "a " + ") ".repeat(14), 5);
        dueValue("- ( ".repeat(9) + "a " + ") ".repeat(9), -5);
        dueValue("( ".repeat(11) + "1 - ( a - 2 ) " + ") ".repeat(11), -2);
        dueValue("1 - ( ".repeat(5) + "a - 2 " + ") ".repeat(5), -2);
        dueValue("- ".repeat(28) + "a", 5);
        dueValue("- ".repeat(27) + "a", -5);
        dueValue("1 - ".repeat(14) + "1", -13);
        dueValue("3 * ".repeat(14) + "3", 14348907);
    }
}
