import java.util.ArrayList;
import java.util.List;

/**
 * Long runs of mixed calls beside the model. After every call every query is compared, and after
 * every build a new object with the same tokens too. The runs are the same each time.
 */
public final class ModelTest {
    private static final int SHORT_RUNS = 120;
    private static final int SHORT_RUN_CALLS = 120;
    private static final int LONG_RUNS = 5;
    private static final int LONG_RUN_CALLS = 2500;

    private static final Check CHECK = new Check();
    private static long seed = 20261115L;

    public static void main(String[] args) {
        for (int run = 0; run < SHORT_RUNS + LONG_RUNS; run++) {
            int u = 2 + below(7);
            int t = run % 3 == 0 ? 8 + below(25) : 32;
            int n = 4 + below(13);
            int calls = run < SHORT_RUNS ? SHORT_RUN_CALLS : LONG_RUN_CALLS;
            run(run, calls, new NameHashBuilder(u, t, n), new Model(u, t, n));
        }
        CHECK.end();
    }

    /** A generator of our own, so that the runs hang on nothing outside this file. */
    private static int below(int bound) {
        seed = seed * 6364136223846793005L + 1442695040888963407L;
        return (int) ((seed >>> 33) % bound);
    }

    private static void run(int run, int calls, NameHashBuilder x, Model model) {
        for (int call = 0; call < calls; call++) {
            String when = "run " + run + " call " + call;
            switch (below(10)) {
                case 0:
                case 1:
                case 2:
                    refill(when, x, model);
                    break;
                case 3:
                case 4:
                    CHECK.due(when + ": build()", x.build(), model.build());
                    dueAsNew(when, x, model);
                    break;
                default:
                    edit(when, x, model);
                    break;
            }
            compare(when, x, model);
        }
    }

    private static void dueAsNew(String when, NameHashBuilder x, Model model) {
        NameHashBuilder fresh = new NameHashBuilder(model.u, model.t, model.n);
        for (int unit = 0; unit < model.u; unit++) {
            for (int[] token : model.units.get(unit)) {
                CHECK.due(when + ": append to a new object", fresh.append(unit, token[0], token[1]), true);
            }
        }
        fresh.build();
        CHECK.same(when + ": as a new object", Check.meaning(x), Check.meaning(fresh));
    }

    private static int anyUnit(Model model) {
        return below(12) == 0 ? below(12) - 2 : below(model.u);
    }

    private static int anyValue(Model model, int kind) {
        if (kind == 2) {
            return below(12) == 0 ? below(40) - 10 : below(model.n);
        }
        int[] edges = {0, 1, -1, 2, 3, 46341, 65536, Integer.MIN_VALUE, Integer.MAX_VALUE};
        return below(2) == 0 ? edges[below(edges.length)] : below(2000) - 1000;
    }

    private static void edit(String when, NameHashBuilder x, Model model) {
        int unit = anyUnit(model);
        int length = model.has(unit) ? model.units.get(unit).size() : 0;
        int index = below(length + 3) - 1;
        int kind = below(15) == 0 ? below(14) - 2 : 1 + below(9);
        int value = anyValue(model, kind);
        String args = "(" + unit + ", " + index + ", " + kind + ", " + value + ")";
        switch (below(9)) {
            case 0:
            case 1:
                CHECK.due(when + ": append" + args, x.append(unit, kind, value), model.append(unit, kind, value));
                break;
            case 2:
            case 3:
                CHECK.due(when + ": setToken" + args, x.setToken(unit, index, kind, value),
                        model.set(unit, index, kind, value));
                break;
            case 4:
            case 5:
                CHECK.due(when + ": insertToken" + args, x.insertToken(unit, index, kind, value),
                        model.insert(unit, index, kind, value));
                break;
            case 6:
            case 7:
                CHECK.due(when + ": deleteToken" + args, x.deleteToken(unit, index), model.delete(unit, index));
                break;
            default:
                CHECK.due(when + ": clearUnit" + args, x.clearUnit(unit), model.clear(unit));
                break;
        }
    }

    /** Fills a unit with defs that the grammar derives, as long as they fit. */
    private static void refill(String when, NameHashBuilder x, Model model) {
        int unit = below(model.u);
        CHECK.due(when + ": clearUnit", x.clearUnit(unit), model.clear(unit));
        for (int tries = 0; tries < 8; tries++) {
            List<int[]> def = new ArrayList<>();
            def.add(Model.token(2, below(model.n)));
            def.add(Model.token(8, 0));
            addExpr(def, model, 0);
            def.add(Model.token(9, 0));
            if (model.units.get(unit).size() + def.size() <= model.t) {
                for (int[] token : def) {
                    CHECK.due(when + ": append", x.append(unit, token[0], token[1]),
                            model.append(unit, token[0], token[1]));
                }
            }
        }
    }

    private static void addExpr(List<int[]> def, Model model, int depth) {
        int operands = 1 + below(3) * below(2);
        for (int i = 0; i < operands; i++) {
            if (i > 0) {
                def.add(Model.token(3 + below(3), 0));
            }
            while (below(4) == 0) {
                def.add(Model.token(4, 0));
            }
            if (depth < 4 && below(4) == 0) {
                def.add(Model.token(6, 0));
                addExpr(def, model, depth + 1);
                def.add(Model.token(7, 0));
            } else if (below(2) == 0) {
                def.add(Model.token(2, below(model.n)));
            } else {
                def.add(Model.token(1, anyValue(model, 1)));
            }
        }
    }

    private static void compare(String when, NameHashBuilder x, Model model) {
        for (int unit = -1; unit <= model.u; unit++) {
            boolean has = model.has(unit);
            int length = has ? model.units.get(unit).size() : -1;
            String at = when + ": unit " + unit;
            CHECK.due(at + " getLength", x.getLength(unit), length);
            CHECK.due(at + " getUnitError", x.getUnitError(unit), has ? model.errors[unit] : -2);
            CHECK.due(at + " getDefCount", x.getDefCount(unit), has ? model.defCounts[unit] : -1);
            for (int index = -1; index <= 32; index++) {
                boolean there = index >= 0 && index < length;
                int[] token = there ? model.units.get(unit).get(index) : Model.token(0, 0);
                CHECK.due(at + " getTokenKind " + index, x.getTokenKind(unit, index), token[0]);
                CHECK.due(at + " getTokenValue " + index, x.getTokenValue(unit, index), token[1]);
            }
            for (int name = -1; name <= model.n; name++) {
                boolean used = has && model.hasName(name) && model.uses[unit][name];
                CHECK.due(at + " usesName " + name, x.usesName(unit, name), used);
            }
        }
        for (int name = -1; name <= model.n; name++) {
            int[] triple = model.hasName(name) ? model.triples[name] : new int[] {-1, 0, 0};
            CHECK.dueName(when, x, name, triple[0], triple[1], triple[2]);
            boolean changed = model.hasName(name) && model.changed[name];
            CHECK.due(when + ": isChanged(" + name + ")", x.isChanged(name), changed);
        }
    }
}
