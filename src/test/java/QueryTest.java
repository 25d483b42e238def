/** Promises 8 to 16: what the queries answer, inside and outside of their ranges. */
public final class QueryTest {
    private static final int OK = NameHashBuilder.ST_OK;
    private static final int NODEF = NameHashBuilder.ST_NODEF;
    private static final int MIN = Check.MIN;
    private static final int MAX = Check.MAX;
    // The objects here have U = 4, T = 32 and N = 8.
    private static final int[] OUTSIDE_UNITS = {MIN, -32, -1, 4, 5, 7, 8, 32, 256, MAX};
    // 32 + n is the same shift as n: a name outside must not be taken for one inside.
    private static final int[] OUTSIDE_NAMES = {MIN, -32, -31, -1, 8, 9, 15, 16, 32, 33, 64, MAX};

    private static final Check CHECK = new Check();

    public static void main(String[] args) {
        tokens();
        units();
        names();
        CHECK.sentence("8 to 16: it changes nothing", QueryTest::queriesChangeNothing);
        CHECK.end();
    }

    private static void tokens() {
        CHECK.sentence("8: the current token count (0..T)", QueryTest::lengths);
        CHECK.sentence("8: -1 if unit is outside 0..U-1", QueryTest::lengthsOutside);
        CHECK.sentence("9: the kind (1..9) and the stored value at index", QueryTest::tokensInside);
        CHECK.sentence("9: the stored value is 0 for kinds 3..9", QueryTest::valuesOfSigns);
        CHECK.sentence("9: 0 if unit is outside 0..U-1", QueryTest::tokensOfUnitsOutside);
        CHECK.sentence("9: 0 if index is outside 0..length-1", QueryTest::tokensOutside);
        CHECK.sentence("9: 0 if index is outside 0..length-1, also where a token was before", QueryTest::removedTokens);
        CHECK.sentence("9: they reflect edits at once, without a build", QueryTest::editsShowAtOnce);
    }

    private static void units() {
        CHECK.sentence("10: BAD_UNIT (-2) if unit is outside 0..U-1", QueryTest::errorsOutside);
        CHECK.sentence("10: from the last build or the start results", QueryTest::errorsOfLastBuild);
        CHECK.sentence("10: UNIT_OK (-1) if the unit had no error", QueryTest::noErrors);
        CHECK.sentence("10: otherwise its error position, in 0..T", QueryTest::errorPositions);
        CHECK.sentence("11: -1 if unit is outside 0..U-1", QueryTest::defCountsOutside);
        CHECK.sentence("11: ignored defs are counted too", QueryTest::ignoredDefsCount);
        CHECK.sentence("11: 0 when the unit had an error", QueryTest::defCountOfError);
        CHECK.sentence("11: from the last build", QueryTest::defCountsOfLastBuild);
        CHECK.sentence("12: false if unit is outside 0..U-1", QueryTest::usesOfUnitsOutside);
        CHECK.sentence("12: false if name is outside 0..N-1", QueryTest::usesOfNamesOutside);
        CHECK.sentence("12: false if the unit had an error", QueryTest::usesOfError);
        CHECK.sentence("12: some def of the unit, ignored or not, uses name", QueryTest::uses);
        CHECK.sentence("12: the defined name alone is not used", QueryTest::definedIsNotUsed);
        CHECK.sentence("12: from the last build", QueryTest::usesOfLastBuild);
    }

    private static void names() {
        CHECK.sentence("13: the owner unit, or -1", QueryTest::owners);
        CHECK.sentence("13: -1 for name outside 0..N-1", QueryTest::ownersOutside);
        CHECK.sentence("14: one of the five ST_ constants", QueryTest::statuses);
        CHECK.sentence("14: ST_NODEF for name outside 0..N-1", QueryTest::statusesOutside);
        CHECK.sentence("15: 0 unless the status is ST_OK", QueryTest::valuesNotOk);
        CHECK.sentence("15: for an ST_OK name it may be any int", QueryTest::anyValue);
        CHECK.sentence("15: 0 for name outside 0..N-1", QueryTest::valuesOutside);
        CHECK.sentence("13 to 15: from the last build", QueryTest::namesOfLastBuild);
        CHECK.sentence("16: false for name outside 0..N-1", QueryTest::changesOutside);
        CHECK.sentence("16: false before the first build", QueryTest::notChangedBeforeFirstBuild);
        CHECK.sentence("16: edits after a build do not alter the answer", QueryTest::editsAlterNoChange);
        CHECK.sentence("16: from the last build, not an earlier one", QueryTest::changesOfLastBuild);
    }

    /** All names owned, ok and changed, the last unit's too, so that a wrong bound shows. */
    private static NameHashBuilder allOwned() {
        String unit = "a = 1 ; b = a ; c = a ; d = a ; e = a ; f = a ; g = a ; h = a ;";
        return CHECK.built(unit, "a = a + b + c + d + e + f + g + h ;", "b = c ;", unit);
    }

    private static void lengths() {
        NameHashBuilder x = CHECK.filled();
        CHECK.due("getLength(3) at the start", x.getLength(3), 0);
        for (int length = 1; length <= 32; length++) {
            CHECK.due("append", x.append(3, 6, 0), true);
            CHECK.due("getLength(3)", x.getLength(3), length);
            CHECK.due("getLength(2)", x.getLength(2), 0);
        }
        CHECK.due("append to a full unit", x.append(3, 6, 0), false);
        CHECK.due("getLength(3), full", x.getLength(3), 32);
    }

    private static void lengthsOutside() {
        for (int unit : OUTSIDE_UNITS) {
            CHECK.due("getLength(" + unit + ") at the start", CHECK.filled().getLength(unit), -1);
            CHECK.due("getLength(" + unit + ")", allOwned().getLength(unit), -1);
        }
    }

    private static void tokensInside() {
        NameHashBuilder x = CHECK.filled("a = - ( 1 + -2147483648 ) * h ;", "", "", "2147483647");
        int[][] due = {{2, 0}, {8, 0}, {4, 0}, {6, 0}, {1, 1}, {3, 0}, {1, MIN}, {7, 0}, {5, 0}, {2, 7}, {9, 0}};
        for (int index = 0; index < due.length; index++) {
            CHECK.dueToken("all kinds", x, 0, index, due[index][0], due[index][1]);
        }
        CHECK.dueToken("the last unit", x, 3, 0, 1, MAX);
    }

    private static void valuesOfSigns() {
        for (int kind = 3; kind <= 9; kind++) {
            NameHashBuilder x = CHECK.filled("5");
            CHECK.due("setToken(0, 0, " + kind + ", 5)", x.setToken(0, 0, kind, 5), true);
            CHECK.dueToken("kind " + kind, x, 0, 0, kind, 0);
        }
    }

    private static void tokensOfUnitsOutside() {
        NameHashBuilder x = CHECK.filled("( ".repeat(32), "5 ".repeat(32), "h ".repeat(32), "7 ".repeat(32));
        for (int unit : OUTSIDE_UNITS) {
            for (int index : new int[] {MIN, -32, -1, 0, 1, 31, 32, MAX}) {
                CHECK.dueToken("outside", x, unit, index, 0, 0);
            }
        }
    }

    private static void tokensOutside() {
        NameHashBuilder x = CHECK.filled("7 7", "7 ".repeat(32), "7 ".repeat(32), "");
        for (int index : new int[] {MIN, -64, -32, -1, 2, 3, 31, 32, 33, 64, MAX}) {
            CHECK.dueToken("two tokens", x, 0, index, 0, 0);
        }
        for (int index : new int[] {MIN, -64, -32, -1, 32, 33, 64, MAX}) {
            CHECK.dueToken("a full unit", x, 1, index, 0, 0);
        }
        for (int index : new int[] {-32, -1, 0, 1, 31, 32}) {
            CHECK.dueToken("an empty unit", x, 3, index, 0, 0);
        }
        CHECK.dueToken("the last of two", x, 0, 1, 1, 7);
        CHECK.dueToken("the last of a full unit", x, 1, 31, 1, 7);
    }

    private static void removedTokens() {
        NameHashBuilder x = CHECK.filled("1 2 3");
        CHECK.due("deleteToken(0, 0)", x.deleteToken(0, 0), true);
        CHECK.dueToken("deleteToken", x, 0, 2, 0, 0);
        CHECK.dueToken("deleteToken", x, 0, 1, 1, 3);
        CHECK.due("clearUnit(0)", x.clearUnit(0), true);
        CHECK.dueToken("clearUnit", x, 0, 0, 0, 0);
        CHECK.dueToken("clearUnit", x, 0, 1, 0, 0);
    }

    private static void editsShowAtOnce() {
        NameHashBuilder x = CHECK.built("a = 1 ;");
        CHECK.due("append", x.append(0, 2, 3), true);
        CHECK.dueTokens("append", x, 0, "a = 1 ; d");
        CHECK.due("setToken", x.setToken(0, 2, 1, -8), true);
        CHECK.dueTokens("setToken", x, 0, "a = -8 ; d");
        CHECK.due("insertToken", x.insertToken(0, 2, 4, 1), true);
        CHECK.dueTokens("insertToken", x, 0, "a = - -8 ; d");
        CHECK.due("deleteToken", x.deleteToken(0, 5), true);
        CHECK.dueTokens("deleteToken", x, 0, "a = - -8 ;");
        CHECK.due("clearUnit", x.clearUnit(0), true);
        CHECK.dueTokens("clearUnit", x, 0, "");
    }

    private static void errorsOutside() {
        for (int unit : OUTSIDE_UNITS) {
            CHECK.due("getUnitError(" + unit + ") at the start", CHECK.filled().getUnitError(unit), -2);
            CHECK.due("getUnitError(" + unit + ")", allOwned().getUnitError(unit), NameHashBuilder.BAD_UNIT);
            CHECK.due("getUnitError(" + unit + "), errors", CHECK.built("=", "=", "=", "=").getUnitError(unit), -2);
        }
    }

    private static void errorsOfLastBuild() {
        NameHashBuilder x = CHECK.filled("=");
        CHECK.due("before the first build", x.getUnitError(0), NameHashBuilder.UNIT_OK);
        x.build();
        CHECK.due("built", x.getUnitError(0), 0);
        CHECK.fill(x, 0, "a = 1 ;");
        CHECK.due("edited", x.getUnitError(0), 0);
        x.build();
        CHECK.due("built again", x.getUnitError(0), NameHashBuilder.UNIT_OK);
        CHECK.fill(x, 0, "a =");
        CHECK.due("edited again", x.getUnitError(0), NameHashBuilder.UNIT_OK);
    }

    private static void noErrors() {
        NameHashBuilder x = CHECK.built("", "a = 1 ;", "b = h ; c = c ;", "a = 2 ;");
        for (int unit = 0; unit < 4; unit++) {
            CHECK.due("getUnitError(" + unit + ")", x.getUnitError(unit), -1);
        }
    }

    private static void errorPositions() {
        NameHashBuilder x = CHECK.built(";", "a = 1 ; a", "a = " + "( ".repeat(30), "a = " + "( ".repeat(29) + ";");
        CHECK.due("the first token", x.getUnitError(0), 0);
        CHECK.due("the length", x.getUnitError(1), 5);
        CHECK.due("T", x.getUnitError(2), 32);
        CHECK.due("T - 1", x.getUnitError(3), 31);
    }

    private static void defCountsOutside() {
        for (int unit : OUTSIDE_UNITS) {
            CHECK.due("getDefCount(" + unit + ") at the start", CHECK.filled().getDefCount(unit), -1);
            CHECK.due("getDefCount(" + unit + ")", allOwned().getDefCount(unit), -1);
        }
        CHECK.due("getDefCount(0)", allOwned().getDefCount(0), 8);
        CHECK.due("getDefCount(3)", allOwned().getDefCount(3), 8);
    }

    private static void ignoredDefsCount() {
        NameHashBuilder x = CHECK.built("a = 1 ; ".repeat(8), "a = 1 ; b = 2 ; a = 3 ;");
        CHECK.due("seven of eight ignored", x.getDefCount(0), 8);
        CHECK.due("two of three ignored", x.getDefCount(1), 3);
    }

    private static void defCountOfError() {
        NameHashBuilder x = CHECK.built("a = 1 ; ".repeat(7) + "a = 1", "a = 1 ; =", "a = 1 ; b = 2 ;");
        CHECK.due("seven defs and an error", x.getDefCount(0), 0);
        CHECK.due("one def and an error", x.getDefCount(1), 0);
        CHECK.due("no error", x.getDefCount(2), 2);
    }

    private static void defCountsOfLastBuild() {
        NameHashBuilder x = CHECK.filled("a = 1 ;");
        CHECK.due("before the first build", x.getDefCount(0), 0);
        x.build();
        CHECK.due("built", x.getDefCount(0), 1);
        CHECK.fill(x, 0, "a = 1 ; b = 2 ;");
        CHECK.due("edited", x.getDefCount(0), 1);
        x.build();
        CHECK.due("built again", x.getDefCount(0), 2);
        CHECK.due("append", x.append(0, 3, 0), true);
        CHECK.due("edited again", x.getDefCount(0), 2);
    }

    private static void usesOfUnitsOutside() {
        NameHashBuilder x = allOwned();
        for (int unit : OUTSIDE_UNITS) {
            for (int name = -1; name <= 8; name++) {
                CHECK.due("usesName(" + unit + ", " + name + ")", x.usesName(unit, name), false);
            }
        }
        CHECK.dueUses("the last unit", x, 3, "a");
    }

    private static void usesOfNamesOutside() {
        NameHashBuilder x = allOwned();
        CHECK.dueUses("all names", x, 1, "abcdefgh");
        for (int name : OUTSIDE_NAMES) {
            for (int unit = -1; unit <= 4; unit++) {
                CHECK.due("usesName(" + unit + ", " + name + ")", x.usesName(unit, name), false);
            }
        }
    }

    private static void usesOfError() {
        NameHashBuilder x = CHECK.built("a = b ; c = d ; =", "a = b ;", "= a = b ;", "b = 1 ;");
        CHECK.dueUses("an error after the uses", x, 0, "");
        CHECK.dueUses("no error", x, 1, "b");
        CHECK.dueUses("an error before the uses", x, 2, "");
    }

    private static void uses() {
        NameHashBuilder x = CHECK.built("a = b + b * ( c - - d ) ; e = 1 ;", "h = h ;", "a = g ; a = f ;", "b = 3 ;");
        CHECK.dueUses("several times and in parentheses", x, 0, "bcd");
        CHECK.dueUses("its own name", x, 1, "h");
        CHECK.dueUses("ignored defs", x, 2, "fg");
        CHECK.dueUses("no use", x, 3, "");
    }

    private static void definedIsNotUsed() {
        NameHashBuilder x = CHECK.built("a = 1 ; b = 2 ; h = 3 ;", "c = a ;");
        CHECK.dueUses("only defined", x, 0, "");
        CHECK.dueUses("defined and used", x, 1, "a");
    }

    private static void usesOfLastBuild() {
        NameHashBuilder x = CHECK.filled("a = b ;");
        CHECK.dueUses("before the first build", x, 0, "");
        x.build();
        CHECK.dueUses("built", x, 0, "b");
        CHECK.fill(x, 0, "a = c ;");
        CHECK.dueUses("edited", x, 0, "b");
        x.build();
        CHECK.dueUses("built again", x, 0, "c");
    }

    private static void owners() {
        NameHashBuilder x = CHECK.built("a = 1 ;", "b = b ;", "c = g ;", "h = c ; d = 1 ;");
        int[] due = {0, 1, 2, 3, -1, -1, -1, 3};
        for (int name = 0; name < 8; name++) {
            CHECK.due("getOwner(" + name + ")", x.getOwner(name), due[name]);
        }
    }

    private static void ownersOutside() {
        for (int name : OUTSIDE_NAMES) {
            CHECK.due("getOwner(" + name + ") at the start", CHECK.filled().getOwner(name), -1);
            CHECK.due("getOwner(" + name + ")", allOwned().getOwner(name), -1);
        }
        CHECK.due("getOwner(0)", allOwned().getOwner(0), 0);
        CHECK.due("getOwner(7)", allOwned().getOwner(7), 0);
    }

    private static void statuses() {
        NameHashBuilder x = CHECK.built("a = 1 ; b = h ; c = c ; d = c ;");
        CHECK.due("getStatus(4)", x.getStatus(4), NameHashBuilder.ST_NODEF);
        CHECK.due("getStatus(0)", x.getStatus(0), NameHashBuilder.ST_OK);
        CHECK.due("getStatus(1)", x.getStatus(1), NameHashBuilder.ST_UNDEF);
        CHECK.due("getStatus(2)", x.getStatus(2), NameHashBuilder.ST_CYCLE);
        CHECK.due("getStatus(3)", x.getStatus(3), NameHashBuilder.ST_BROKEN);
    }

    private static void statusesOutside() {
        for (int name : OUTSIDE_NAMES) {
            CHECK.due("getStatus(" + name + ") at the start", CHECK.filled().getStatus(name), NODEF);
            CHECK.due("getStatus(" + name + ")", allOwned().getStatus(name), NODEF);
        }
        CHECK.due("getStatus(0)", allOwned().getStatus(0), OK);
        CHECK.due("getStatus(7)", allOwned().getStatus(7), OK);
    }

    private static void valuesNotOk() {
        NameHashBuilder x = CHECK.built("a = 9 ; b = 9 + h ; c = 9 + c ; d = 9 + c ;");
        int[] due = {9, 0, 0, 0, 0};
        for (int name = 0; name < due.length; name++) {
            CHECK.due("getValue(" + name + ")", x.getValue(name), due[name]);
        }
    }

    private static void anyValue() {
        for (int value : new int[] {MIN, MIN + 1, -65536, -2, -1, 0, 1, 65536, MAX - 1, MAX}) {
            CHECK.dueName("value " + value, CHECK.built("h = " + value + " ;"), 7, 0, OK, value);
        }
    }

    private static void valuesOutside() {
        for (int name : OUTSIDE_NAMES) {
            CHECK.due("getValue(" + name + ") at the start", CHECK.filled().getValue(name), 0);
            CHECK.due("getValue(" + name + ")", allOwned().getValue(name), 0);
        }
        CHECK.due("getValue(0)", allOwned().getValue(0), 1);
        CHECK.due("getValue(7)", allOwned().getValue(7), 1);
    }

    private static void namesOfLastBuild() {
        NameHashBuilder x = CHECK.filled("a = 4 ;");
        CHECK.dueName("before the first build", x, 0, -1, NODEF, 0);
        x.build();
        CHECK.dueName("built", x, 0, 0, OK, 4);
        CHECK.fill(x, 0, "");
        CHECK.fill(x, 2, "a = 5 + h ;");
        CHECK.dueName("edited", x, 0, 0, OK, 4);
        x.build();
        CHECK.dueName("built again", x, 0, 2, NameHashBuilder.ST_UNDEF, 0);
    }

    private static void changesOutside() {
        NameHashBuilder x = allOwned();
        CHECK.dueChanged("all names", x, "abcdefgh");
        for (int name : OUTSIDE_NAMES) {
            CHECK.due("isChanged(" + name + ")", x.isChanged(name), false);
            CHECK.due("isChanged(" + name + ") at the start", CHECK.filled().isChanged(name), false);
        }
    }

    private static void notChangedBeforeFirstBuild() {
        CHECK.dueChanged("at the start", CHECK.filled(), "");
        CHECK.dueChanged("filled, not built", CHECK.filled("a = 1 ; b = b ;", "h = 2 ;"), "");
    }

    private static void editsAlterNoChange() {
        NameHashBuilder x = CHECK.built("a = 1 ;", "b = 2 ;");
        CHECK.fill(x, 0, "c = 3 ;");
        CHECK.due("setToken(1, 2, 1, 9)", x.setToken(1, 2, 1, 9), true);
        CHECK.dueChanged("edited", x, "ab");
        CHECK.dueBuild("built", x, "abc");
        CHECK.dueBuild("built again", x, "");
        CHECK.due("clearUnit(0)", x.clearUnit(0), true);
        CHECK.due("deleteToken(1, 3)", x.deleteToken(1, 3), true);
        CHECK.due("insertToken(2, 0, 2, 5)", x.insertToken(2, 0, 2, 5), true);
        CHECK.dueChanged("edited again", x, "");
    }

    private static void changesOfLastBuild() {
        NameHashBuilder x = CHECK.built("a = 1 ;", "b = 2 ;");
        CHECK.dueChanged("first", x, "ab");
        CHECK.fill(x, 1, "b = 3 ;");
        CHECK.dueBuild("second", x, "b");
        CHECK.fill(x, 2, "c = 3 ;");
        CHECK.dueBuild("third", x, "c");
    }

    /** The twin is never asked before the end, so that a query that changes something shows. */
    private static void queriesChangeNothing() {
        String[] units = {"a = b ; c = c ;", "b = 2 ;", "d = h ;", "e = ("};
        for (int builds = 0; builds <= 2; builds++) {
            NameHashBuilder x = CHECK.filled(units);
            NameHashBuilder twin = CHECK.filled(units);
            askAll(x);
            for (int build = 0; build < builds; build++) {
                CHECK.due("build()", x.build(), twin.build());
                askAll(x);
            }
            CHECK.same("after " + builds + " builds", Check.state(x), Check.state(twin));
            CHECK.fill(x, 1, "b = 3 ;");
            CHECK.fill(twin, 1, "b = 3 ;");
            askAll(x);
            CHECK.due("build() after an edit", x.build(), twin.build());
            CHECK.same("after " + builds + " builds and an edit", Check.state(x), Check.state(twin));
        }
    }

    private static void askAll(NameHashBuilder x) {
        int[] numbers = {MIN, -32, -1, 0, 1, 2, 3, 4, 7, 8, 15, 16, 31, 32, 256, MAX};
        for (int first : numbers) {
            x.getLength(first);
            x.getUnitError(first);
            x.getDefCount(first);
            x.getOwner(first);
            x.getStatus(first);
            x.getValue(first);
            x.isChanged(first);
            for (int second : numbers) {
                x.getTokenKind(first, second);
                x.getTokenValue(first, second);
                x.usesName(first, second);
            }
        }
    }
}
