/**
 * Every unit of up to nine tokens beside the model, one after the other in one object, so that the
 * last ones come after a run of some hundred thousand calls. Behind an error only one more token is
 * tried: the tokens up to the error alone decide.
 */
public final class EveryUnitTest {
    private static final int T = 9;
    private static final int UNIT = 1;

    private static final Check CHECK = new Check();
    private static final NameHashBuilder OBJECT = new NameHashBuilder(2, T, 4);
    private static final Model MODEL = new Model(2, T, 4);

    public static void main(String[] args) {
        // Name 1, which the exprs use, is defined beside the unit.
        append(0, NameHashBuilder.K_NAME, 1);
        append(0, NameHashBuilder.K_ASSIGN, 0);
        append(0, NameHashBuilder.K_NUM, -3);
        append(0, NameHashBuilder.K_SEMI, 0);
        tryUnit("");
        CHECK.end();
    }

    private static void tryUnit(String text) {
        CHECK.due("[" + text + "] build()", OBJECT.build(), MODEL.build());
        dueResults(text);
        int length = MODEL.units.get(UNIT).size();
        int error = MODEL.errors[UNIT];
        if (length == T || error >= 0 && error < length - 1) {
            return;
        }
        for (int kind = NameHashBuilder.K_NUM; kind <= NameHashBuilder.K_SEMI; kind++) {
            append(UNIT, kind, valueAfter(text, kind, length));
            tryUnit(text + "?9a+-*()=;".charAt(kind));
            CHECK.due("deleteToken", OBJECT.deleteToken(UNIT, length), MODEL.delete(UNIT, length));
        }
    }

    private static void append(int unit, int kind, int value) {
        CHECK.due("append", OBJECT.append(unit, kind, value), MODEL.append(unit, kind, value));
    }

    /** Defs are of name 0 and use name 1; no two literals of a unit are alike. */
    private static int valueAfter(String text, int kind, int length) {
        if (kind == NameHashBuilder.K_NAME) {
            return text.isEmpty() || text.endsWith(";") ? 0 : 1;
        }
        return 10 + length;
    }

    private static void dueResults(String text) {
        String when = "[" + text + "]";
        CHECK.dueUnit(when, OBJECT, UNIT, MODEL.errors[UNIT], MODEL.defCounts[UNIT]);
        for (int name = 0; name < 2; name++) {
            int[] triple = MODEL.triples[name];
            CHECK.dueName(when, OBJECT, name, triple[0], triple[1], triple[2]);
            CHECK.due(when + ": isChanged(" + name + ")", OBJECT.isChanged(name), MODEL.changed[name]);
            CHECK.due(when + ": usesName(1, " + name + ")", OBJECT.usesName(UNIT, name), MODEL.uses[UNIT][name]);
        }
    }
}
