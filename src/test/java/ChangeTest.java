/** Promise 7: what build() answers and leaves alone, and point 6 of the meaning, the changed names. */
public final class ChangeTest {
    private static final Check CHECK = new Check();

    public static void main(String[] args) {
        CHECK.sentence("7: build() is never refused", ChangeTest::neverRefused);
        CHECK.sentence("7: the number of changed names, 0 at the least", ChangeTest::noneChanged);
        CHECK.sentence("7: the number of changed names, N at the most", ChangeTest::allChanged);
        CHECK.sentence("7: tokens and lengths are not changed", ChangeTest::tokensStay);
        CHECK.sentence("7: it replaces all build results", ChangeTest::replacesAll);
        CHECK.sentence("7: the results do not depend on the order of earlier edits", ChangeTest::orderOfEdits);
        CHECK.sentence("7: the results do not depend on earlier builds", ChangeTest::earlierBuilds);
        CHECK.sentence("7: whatever was edited and built, with empty units all is as in a new object",
                ChangeTest::emptiedAsNew);
        CHECK.sentence("7.6: changed when the owner alone differs", ChangeTest::ownerAlone);
        CHECK.sentence("7.6: changed when the status alone differs", ChangeTest::statusAlone);
        CHECK.sentence("7.6: changed when the value alone differs", ChangeTest::valueAlone);
        CHECK.sentence("7.6: not changed when the triple is the same", ChangeTest::sameTriple);
        CHECK.sentence("7.6: the results just before it, not older ones", ChangeTest::justBefore);
        CHECK.sentence("7.6: over several builds in a row, each triple after each other one", ChangeTest::allTriples);
        CHECK.sentence("7.6: the first build is compared with the start results", ChangeTest::firstBuild);
        CHECK.sentence("7.6: a build with nothing changed", ChangeTest::nothingChanged);
        CHECK.sentence("7.6: names that use a changed name", ChangeTest::usersOfChanged);
        CHECK.end();
    }

    private static void neverRefused() {
        NameHashBuilder x = CHECK.object(2, 8, 4);
        CHECK.dueBuild("empty", x, "");
        CHECK.fill(x, 0, "= = = = = = = =");
        CHECK.fill(x, 1, "( ( ( ( ( ( ( (");
        CHECK.dueBuild("full of errors", x, "");
        CHECK.fill(x, 1, "a = 1 ; b = a ;");
        CHECK.dueBuild("one good unit", x, "ab");
        CHECK.fill(x, 0, "c = 1 ; d = d ;");
        CHECK.dueBuild("full", x, "cd");
        CHECK.due("clearUnit(0)", x.clearUnit(0), true);
        CHECK.due("clearUnit(1)", x.clearUnit(1), true);
        CHECK.dueBuild("cleared", x, "abcd");
    }

    private static void noneChanged() {
        for (int n = 4; n <= 16; n++) {
            NameHashBuilder x = CHECK.object(8, 8, n);
            CHECK.dueBuild("empty", x, "");
            CHECK.fill(x, 0, "a = 1");
            CHECK.dueBuild("an error", x, "");
        }
    }

    private static void allChanged() {
        for (int n = 4; n <= 16; n++) {
            NameHashBuilder x = CHECK.object(8, 8, n);
            String all = "abcdefghijklmnop".substring(0, n);
            for (int name = 0; name < n; name++) {
                x.append(name / 2, 2, name);
                x.append(name / 2, 8, 0);
                x.append(name / 2, 1, 0);
                x.append(name / 2, 9, 0);
            }
            CHECK.dueBuild("all defined", x, all);
            CHECK.dueBuild("the same again", x, "");
            for (int unit = 0; unit < 8; unit++) {
                x.clearUnit(unit);
            }
            CHECK.dueBuild("all cleared", x, all);
        }
    }

    private static void tokensStay() {
        String[][] objects = {
            {"a = 1 ; b = - ( a * 3 ) ;", "c = c ;", "d = e ;", "f = 1 +"},
            {"; ;", "a a", "= =", "( )"},
            {"", "a = -2147483648 ;", "", "a = " + "( ".repeat(30)},
        };
        for (String[] units : objects) {
            NameHashBuilder x = CHECK.filled(units);
            String tokens = Check.tokens(x);
            x.build();
            CHECK.same("built", Check.tokens(x), tokens);
            x.build();
            CHECK.same("built twice", Check.tokens(x), tokens);
        }
    }

    private static void replacesAll() {
        NameHashBuilder x = CHECK.built("a = b ; c = 1 ;", "b = 4 ;", "d = d ;", "e = (");
        for (int unit = 0; unit < 4; unit++) {
            x.clearUnit(unit);
        }
        CHECK.dueBuild("cleared", x, "abcd");
        CHECK.same("cleared", Check.meaning(x), Check.meaning(new NameHashBuilder(4, 32, 8)));
        CHECK.dueBuild("once more", x, "");
    }

    private static void orderOfEdits() {
        NameHashBuilder x = CHECK.filled("9 a 9 = 9 b ;", "; 3 = b");
        x.build();
        int[] wrongPlaces = {4, 2, 0};
        for (int index : wrongPlaces) {
            CHECK.due("deleteToken(0, " + index + ")", x.deleteToken(0, index), true);
        }
        CHECK.due("setToken(1, 0)", x.setToken(1, 0, 2, 1), true);
        CHECK.due("deleteToken(1, 1)", x.deleteToken(1, 1), true);
        CHECK.due("insertToken(1, 3)", x.insertToken(1, 3, 9, 0), true);
        CHECK.due("setToken(1, 2)", x.setToken(1, 2, 1, 6), true);
        x.build();
        NameHashBuilder fresh = CHECK.newlyBuilt("a = b ;", "b = 6 ;");
        CHECK.same("edited", Check.meaning(x), Check.meaning(fresh));
        CHECK.dueName("edited", x, 0, 0, NameHashBuilder.ST_OK, 6);
        NameHashBuilder lastUnitFirst = CHECK.object(4, 32, 8);
        CHECK.fill(lastUnitFirst, 1, "b = 6 ;");
        CHECK.fill(lastUnitFirst, 0, "a = b ;");
        lastUnitFirst.build();
        CHECK.same("last unit first", Check.results(lastUnitFirst), Check.results(fresh));
    }

    /** Whatever was built before, the results are those of a new object with the same tokens. */
    private static void earlierBuilds() {
        String[][] objects = {
            {"a = a ; b = h ; c = b ;", "d = ( 1", "e = 2 ; f = e ; e = f ;", "g = 1 ; h = 2 ;"},
            {"d = 5 ;", "a = d - g ; g = 2 * h ;", "h = 1 ; b = 1 +", "c = e ;"},
            {"", "", "", ""},
            {"a = b ; b = c ; c = a ; d = 4 ;", "a = 1 ; e = d ;", "", "f = g ; g = f ; h = e * e ;"},
            {"a = 7 ;", "b = a ; c = b ;", "d = c ; e = d ;", "f = e ; g = f ; h = g ;"},
        };
        NameHashBuilder x = CHECK.filled();
        for (int from = 0; from < objects.length; from++) {
            for (int to = 0; to < objects.length; to++) {
                rebuild(x, objects[from]);
                rebuild(x, objects[to]);
                String fresh = Check.meaning(CHECK.newlyBuilt(objects[to]));
                CHECK.same("object " + to + " after " + from, Check.meaning(x), fresh);
            }
        }
    }

    private static void rebuild(NameHashBuilder x, String[] units) {
        for (int unit = 0; unit < units.length; unit++) {
            CHECK.fill(x, unit, units[unit]);
        }
        x.build();
    }

    private static void emptiedAsNew() {
        for (int u = 2; u <= 8; u++) {
            for (int t = 8; t <= 32; t += 6) {
                for (int n = 4; n <= 16; n += 3) {
                    String fresh = Check.state(new NameHashBuilder(u, t, n));
                    CHECK.same("sizes " + u + ", " + t + ", " + n, Check.state(Worn.object(u, t, n)), fresh);
                }
            }
        }
    }

    private static void ownerAlone() {
        NameHashBuilder x = CHECK.built("a = 3 ; b = h ;");
        CHECK.fill(x, 0, "");
        CHECK.fill(x, 3, "a = 3 ; b = h ;");
        CHECK.dueBuild("from unit 0 to 3", x, "ab");
        CHECK.dueName("from unit 0 to 3", x, 0, 3, NameHashBuilder.ST_OK, 3);
        CHECK.fill(x, 2, "a = 3 ;");
        CHECK.dueBuild("from unit 3 to 2", x, "a");
    }

    /** All with the same owner and value 0. */
    private static void statusAlone() {
        String[] exprs = {"0", "h", "0", "a", "0", "b", "h", "a", "b", "h", "b", "a", "h"};
        NameHashBuilder x = CHECK.built("a = 0 ;", "b = b ;");
        for (int i = 1; i < exprs.length; i++) {
            CHECK.fill(x, 0, "a = " + exprs[i] + " ;");
            CHECK.dueBuild("a from " + exprs[i - 1] + " to " + exprs[i], x, "a");
            CHECK.due("getOwner(0)", x.getOwner(0), 0);
            CHECK.due("getValue(0)", x.getValue(0), 0);
        }
    }

    private static void valueAlone() {
        NameHashBuilder x = CHECK.built("a = 0 ; b = 1 ;");
        for (int value : new int[] {1, -1, Check.MIN, Check.MAX, 65536, 0, 256, -256}) {
            CHECK.fill(x, 0, "a = " + value + " ; b = 1 ;");
            CHECK.dueBuild("a = " + value, x, "a");
        }
    }

    private static void sameTriple() {
        NameHashBuilder x = CHECK.built("a = 1 ; b = a + 1 ;", "c = b * 0 ;", "d = h ; e = e ;");
        CHECK.fill(x, 0, "b = 1 + a ; a = 2 - 1 ; a = 7 ;");
        CHECK.dueBuild("other tokens", x, "");
        CHECK.fill(x, 2, "e = 1 + e ; d = f - g ;");
        CHECK.dueBuild("other tokens, not ok", x, "");
        CHECK.fill(x, 3, "a = 9 ; b = h ;");
        CHECK.dueBuild("ignored defs", x, "");
        CHECK.fill(x, 3, "f = 1");
        CHECK.dueBuild("a unit with an error", x, "");
    }

    private static void justBefore() {
        NameHashBuilder x = CHECK.built("a = 1 ;");
        CHECK.fill(x, 0, "a = 2 ;");
        CHECK.dueBuild("another value", x, "a");
        CHECK.fill(x, 0, "a = 1 ;");
        CHECK.dueBuild("back again", x, "a");
        CHECK.fill(x, 0, "a = 2 ;");
        CHECK.fill(x, 0, "a = 1 ;");
        CHECK.dueBuild("there and back without a build between", x, "");
        CHECK.fill(x, 0, "");
        CHECK.dueBuild("cleared", x, "a");
        CHECK.dueBuild("cleared, again", x, "");
        CHECK.fill(x, 0, "a = 1 ;");
        CHECK.dueBuild("back again", x, "a");
    }

    /** Units 0 and 1 give name a each owner, status and value; the cycle of b in unit 2 stays. */
    private static void allTriples() {
        String[] triples = {"", "a = 0 ;", "a = 5 ;", "a = -5 ;", "a = h ;", "a = a ;", "a = b ;"};
        NameHashBuilder x = CHECK.built("", "", "b = b ;");
        for (int from = 0; from < 2 * triples.length; from++) {
            for (int to = 0; to < 2 * triples.length; to++) {
                giveTriple(x, triples, from);
                x.build();
                giveTriple(x, triples, to);
                boolean same = from == to || from < 2 && to < 2;
                CHECK.dueBuild("from " + from + " to " + to, x, same ? "" : "a");
                CHECK.dueBuild("from " + from + " to " + to + ", again", x, "");
            }
        }
    }

    private static void giveTriple(NameHashBuilder x, String[] triples, int number) {
        CHECK.fill(x, number % 2, triples[number / 2]);
        CHECK.fill(x, 1 - number % 2, "");
    }

    private static void firstBuild() {
        CHECK.dueBuild("empty", CHECK.filled(), "");
        CHECK.dueBuild("value 0", CHECK.filled("a = 0 ;"), "a");
        CHECK.dueBuild("cycle, undef, broken", CHECK.filled("", "a = a ; b = h ; c = b ;"), "abc");
        CHECK.dueBuild("a name that is only used", CHECK.filled("a = b ;"), "a");
        CHECK.dueBuild("errors", CHECK.filled("a = 0", "= b ;"), "");
        CHECK.dueBuild("the last name of the last unit", CHECK.filled("", "", "", "h = 0 ;"), "h");
    }

    private static void nothingChanged() {
        NameHashBuilder x = CHECK.built("a = 1 ; b = b ;", "c = h ; d = c ;", "e = (");
        CHECK.dueChanged("first", x, "abcd");
        String meaning = Check.meaning(x);
        CHECK.dueBuild("second", x, "");
        CHECK.same("second", Check.meaning(x), meaning);
        CHECK.dueBuild("third", x, "");
    }

    private static void usersOfChanged() {
        NameHashBuilder x = CHECK.built("a = 1 ; b = a ; c = a * 0 ;", "d = b + c ; e = 5 ;");
        CHECK.due("setToken(0, 2, 1, 3)", x.setToken(0, 2, 1, 3), true);
        CHECK.dueBuild("another value of a", x, "abd");
        CHECK.due("setToken(0, 2, 2, 7)", x.setToken(0, 2, 2, 7), true);
        CHECK.dueBuild("a undefined", x, "abcd");
    }
}
