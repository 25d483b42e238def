import java.util.function.Predicate;

/** "What it is": the sentences that hold for all calls. */
public final class WhatItIsTest {
    private static final int MIN = Check.MIN;
    private static final int MAX = Check.MAX;

    private static final Check CHECK = new Check();

    public static void main(String[] args) {
        CHECK.sentence("What it is: every refused call changes nothing at all, at the start",
                () -> refusedCallsChangeNothing(CHECK.object(3, 8, 5), new NameHashBuilder(3, 8, 5)));
        CHECK.sentence("What it is: every refused call changes nothing at all, after a build",
                () -> refusedCallsChangeNothing(worked(true), worked(true)));
        CHECK.sentence("What it is: every refused call changes nothing at all, after edits that no build saw",
                () -> refusedCallsChangeNothing(worked(false), worked(false)));
        CHECK.sentence("What it is: edits never change the build results", WhatItIsTest::editsChangeNoResult);
        CHECK.sentence("What it is: edits never change the build results, before the first build",
                WhatItIsTest::editsChangeNoStartResult);
        CHECK.sentence("What it is: the build results stay fixed until the next build",
                WhatItIsTest::untilTheNextBuild);
        CHECK.sentence("What it is: each unit holds at most T tokens", WhatItIsTest::atMostT);
        CHECK.sentence("What it is: a literal's value is any int", WhatItIsTest::anyLiteral);
        CHECK.sentence("What it is: a name's value is the name number, 0..N-1", WhatItIsTest::nameNumbers);
        CHECK.sentence("What it is: tokens of kinds 3..9 always store value 0", WhatItIsTest::signsStoreZero);
        CHECK.sentence("What it is: the value given for kinds 3..9 is ignored", WhatItIsTest::givenValueIsIgnored);
        CHECK.end();
    }

    /** Three units of eight tokens, five names; unit 0 is full, and unit 2 has an error. */
    private static NameHashBuilder worked(boolean lastEditBuilt) {
        NameHashBuilder x = CHECK.object(3, 8, 5);
        CHECK.fill(x, 0, "a = 1 ; b = c ;");
        CHECK.fill(x, 1, "c = a ;");
        CHECK.fill(x, 2, "d = =");
        x.build();
        CHECK.due("setToken(0, 2, 1, 9)", x.setToken(0, 2, 1, 9), true);
        if (lastEditBuilt) {
            x.build();
        }
        return x;
    }

    /** The twin sees none of the refused calls; the next build must find both alike. */
    private static void refusedCallsChangeNothing(NameHashBuilder x, NameHashBuilder twin) {
        String before = Check.state(x);
        for (int unit : new int[] {MIN, -1, 3, 8, MAX}) {
            refused("append(" + unit + ", 1, 5)", x, y -> y.append(unit, 1, 5));
            refused("setToken(" + unit + ", 0, 1, 5)", x, y -> y.setToken(unit, 0, 1, 5));
            refused("insertToken(" + unit + ", 0, 1, 5)", x, y -> y.insertToken(unit, 0, 1, 5));
            refused("deleteToken(" + unit + ", 0)", x, y -> y.deleteToken(unit, 0));
            refused("clearUnit(" + unit + ")", x, y -> y.clearUnit(unit));
        }
        for (int unit = 0; unit < 3; unit++) {
            refusedTokens(x, unit);
            refusedIndexes(x, unit);
        }
        CHECK.same("all refused calls", Check.state(x), before);
        CHECK.due("build() after refused calls", x.build(), twin.build());
        CHECK.same("build after refused calls", Check.state(x), Check.state(twin));
    }

    private static void refusedTokens(NameHashBuilder x, int unit) {
        int[][] tokens = {{MIN, 0}, {-1, 0}, {0, 0}, {10, 0}, {MAX, 0}, {2, MIN}, {2, -1}, {2, 5}, {2, 16}, {2, MAX}};
        for (int[] token : tokens) {
            String given = "(" + unit + ", " + token[0] + ", " + token[1] + ")";
            refused("append" + given, x, y -> y.append(unit, token[0], token[1]));
            refused("setToken at 0 " + given, x, y -> y.setToken(unit, 0, token[0], token[1]));
            refused("insertToken at 0 " + given, x, y -> y.insertToken(unit, 0, token[0], token[1]));
        }
    }

    private static void refusedIndexes(NameHashBuilder x, int unit) {
        int length = x.getLength(unit);
        for (int index : new int[] {MIN, -1, length, length + 1, 8, 32, MAX}) {
            String at = "(" + unit + ", " + index + ")";
            refused("setToken" + at, x, y -> y.setToken(unit, index, 1, 5));
            refused("deleteToken" + at, x, y -> y.deleteToken(unit, index));
            if (index != length || length == 8) {
                refused("insertToken" + at, x, y -> y.insertToken(unit, index, 1, 5));
            }
        }
        if (length == 8) {
            refused("append to a full unit", x, y -> y.append(unit, 1, 5));
            refused("insertToken in a full unit", x, y -> y.insertToken(unit, 0, 1, 5));
        }
    }

    private static void refused(String call, NameHashBuilder x, Predicate<NameHashBuilder> edit) {
        String before = Check.state(x);
        CHECK.due(call, edit.test(x), false);
        CHECK.same(call, Check.state(x), before);
    }

    /** Each of these edits would move a result if it were built. */
    private static void editsChangeNoResult() {
        edited("append of a sign", x -> x.append(0, 3, 0));
        edited("append of a name", x -> x.append(1, 2, 0));
        edited("setToken to another name", x -> x.setToken(0, 0, 2, 7));
        edited("setToken to a sign", x -> x.setToken(0, 1, 9, 0));
        edited("setToken to another literal", x -> x.setToken(0, 2, 1, 99));
        edited("insertToken", x -> x.insertToken(0, 2, 4, 0));
        edited("insertToken that is an error", x -> x.insertToken(0, 0, 9, 0));
        edited("deleteToken", x -> x.deleteToken(0, 3));
        edited("clearUnit", x -> x.clearUnit(0));
        edited("clearUnit of the unit with an error", x -> x.clearUnit(3));
    }

    private static void edited(String call, Predicate<NameHashBuilder> edit) {
        NameHashBuilder x = CHECK.built("a = 1 ; b = a ;", "c = b + a ;", "d = d ; e = d ; f = g ;", "a = (");
        String results = Check.results(x);
        CHECK.due(call, edit.test(x), true);
        CHECK.same(call, Check.results(x), results);
        // Once more after a build without a change, when no name is marked as changed.
        NameHashBuilder quiet = CHECK.built("a = 1 ; b = a ;", "c = b + a ;", "d = d ; e = d ; f = g ;", "a = (");
        CHECK.dueBuild("nothing changed", quiet, "");
        String quietResults = Check.results(quiet);
        CHECK.due(call, edit.test(quiet), true);
        CHECK.same(call, Check.results(quiet), quietResults);
    }

    private static void editsChangeNoStartResult() {
        NameHashBuilder x = CHECK.object(4, 32, 8);
        String start = Check.results(x);
        CHECK.fill(x, 0, "a = 1 ; b = a ; c = c ;");
        CHECK.same("append", Check.results(x), start);
        CHECK.due("setToken", x.setToken(0, 2, 2, 7), true);
        CHECK.same("setToken", Check.results(x), start);
        CHECK.due("insertToken", x.insertToken(0, 0, 9, 0), true);
        CHECK.same("insertToken", Check.results(x), start);
        CHECK.due("deleteToken", x.deleteToken(0, 0), true);
        CHECK.same("deleteToken", Check.results(x), start);
        CHECK.due("clearUnit", x.clearUnit(0), true);
        CHECK.same("clearUnit", Check.results(x), start);
    }

    private static void untilTheNextBuild() {
        NameHashBuilder x = CHECK.built("a = b ;", "b = 3 ;");
        CHECK.fill(x, 0, "a = 4 ; c = a");
        CHECK.fill(x, 1, "b = b ; d = h ;");
        CHECK.dueUnit("edited", x, 0, -1, 1);
        CHECK.dueUses("edited", x, 0, "b");
        CHECK.dueName("edited", x, 0, 0, NameHashBuilder.ST_OK, 3);
        CHECK.dueName("edited", x, 1, 1, NameHashBuilder.ST_OK, 3);
        CHECK.dueBuild("the next build", x, "abd");
        CHECK.dueUnit("the next build", x, 0, 7, 0);
        CHECK.dueUses("the next build", x, 0, "");
        CHECK.dueUnit("the next build", x, 1, -1, 2);
        CHECK.dueUses("the next build", x, 1, "bh");
        CHECK.dueName("the next build", x, 0, -1, NameHashBuilder.ST_NODEF, 0);
        CHECK.dueName("the next build", x, 1, 1, NameHashBuilder.ST_CYCLE, 0);
        CHECK.dueName("the next build", x, 3, 1, NameHashBuilder.ST_UNDEF, 0);
    }

    private static void atMostT() {
        for (int t = 8; t <= 32; t++) {
            NameHashBuilder x = CHECK.object(2, t, 4);
            for (int i = 0; i < t; i++) {
                boolean taken = i % 2 == 0 ? x.append(0, 1, i) : x.insertToken(0, 0, 1, i);
                CHECK.due("token no. " + i + " of " + t, taken, true);
            }
            CHECK.due("append to " + t, x.append(0, 1, 0), false);
            CHECK.due("insertToken in " + t, x.insertToken(0, 0, 1, 0), false);
            CHECK.due("getLength(0)", x.getLength(0), t);
        }
    }

    private static void anyLiteral() {
        int[] literals = {MIN, MIN + 1, -65536, -1, 0, 1, 16, 32, 65536, MAX - 1, MAX};
        for (int literal : literals) {
            NameHashBuilder x = CHECK.built("a = " + literal + " ;");
            CHECK.dueToken("literal", x, 0, 2, 1, literal);
            CHECK.dueName("literal " + literal, x, 0, 0, NameHashBuilder.ST_OK, literal);
        }
    }

    private static void nameNumbers() {
        for (int n = 4; n <= 16; n++) {
            NameHashBuilder x = CHECK.object(2, 32, n);
            for (int name = 0; name < n; name++) {
                CHECK.due("append of name " + name + " of " + n, x.append(0, 2, name), true);
                CHECK.dueToken("name of " + n, x, 0, name, 2, name);
            }
            CHECK.due("append of name N = " + n, x.append(0, 2, n), false);
            CHECK.due("append of name -1", x.append(0, 2, -1), false);
        }
    }

    private static void signsStoreZero() {
        for (int kind = 3; kind <= 9; kind++) {
            for (int value : new int[] {MIN, -1, 0, 1, 7, 8, MAX}) {
                NameHashBuilder x = CHECK.filled("77 77 77");
                CHECK.due("setToken", x.setToken(0, 0, kind, value), true);
                CHECK.dueToken("setToken with " + value, x, 0, 0, kind, 0);
                CHECK.due("insertToken", x.insertToken(0, 1, kind, value), true);
                CHECK.dueToken("insertToken with " + value, x, 0, 1, kind, 0);
                CHECK.due("deleteToken", x.deleteToken(0, 3), true);
                CHECK.due("append", x.append(0, kind, value), true);
                CHECK.dueToken("append with " + value, x, 0, 3, kind, 0);
            }
        }
    }

    /** [a = - ( 2 + 3 ) * 4 - 1 ;] with odd values given for the signs. */
    private static void givenValueIsIgnored() {
        int[][] tokens = {{2, 0}, {8, MAX}, {4, 9}, {6, 1}, {1, 2}, {3, -1}, {1, 3}, {7, 2}, {5, MIN}, {1, 4},
            {4, 77}, {1, 1}, {9, 16}};
        NameHashBuilder x = CHECK.object(2, 32, 8);
        for (int[] token : tokens) {
            CHECK.due("append(0, " + token[0] + ", " + token[1] + ")", x.append(0, token[0], token[1]), true);
        }
        CHECK.dueTokens("odd values", x, 0, "a = - ( 2 + 3 ) * 4 - 1 ;");
        CHECK.dueBuild("odd values", x, "a");
        CHECK.dueUses("odd values", x, 0, "");
        CHECK.dueName("odd values", x, 0, 0, NameHashBuilder.ST_OK, -21);
    }
}
