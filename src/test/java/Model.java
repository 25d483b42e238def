import java.util.ArrayList;
import java.util.Arrays;
import java.util.List;

/**
 * A second reading of the document, in the plainest way: recursive descent by the grammar, and the
 * error position by looking for a completion of each prefix. A build is made afresh from the lists.
 */
final class Model {
    final int u;
    final int t;
    final int n;
    final List<List<int[]>> units = new ArrayList<>();
    final int[] errors;
    final int[] defCounts;
    final boolean[][] uses;
    final int[][] triples;
    final boolean[] changed;
    private Def[] definitions;

    Model(int u, int t, int n) {
        this.u = u;
        this.t = t;
        this.n = n;
        for (int unit = 0; unit < u; unit++) {
            units.add(new ArrayList<>());
        }
        errors = new int[u];
        Arrays.fill(errors, -1);
        defCounts = new int[u];
        uses = new boolean[u][n];
        triples = new int[n][];
        Arrays.fill(triples, new int[] {-1, 0, 0});
        changed = new boolean[n];
    }

    boolean has(int unit) {
        return unit >= 0 && unit < u;
    }

    boolean hasName(int name) {
        return name >= 0 && name < n;
    }

    private boolean valid(int kind, int value) {
        return kind >= 1 && kind <= 9 && (kind != 2 || hasName(value));
    }

    static int[] token(int kind, int value) {
        return new int[] {kind, value};
    }

    private static int[] formed(int kind, int value) {
        return token(kind, kind <= 2 ? value : 0);
    }

    boolean append(int unit, int kind, int value) {
        return has(unit) && insert(unit, units.get(unit).size(), kind, value);
    }

    boolean set(int unit, int index, int kind, int value) {
        if (!has(unit) || index < 0 || index >= units.get(unit).size() || !valid(kind, value)) {
            return false;
        }
        units.get(unit).set(index, formed(kind, value));
        return true;
    }

    boolean insert(int unit, int index, int kind, int value) {
        if (!has(unit) || index < 0 || index > units.get(unit).size() || !valid(kind, value)) {
            return false;
        }
        if (units.get(unit).size() == t) {
            return false;
        }
        units.get(unit).add(index, formed(kind, value));
        return true;
    }

    boolean delete(int unit, int index) {
        if (!has(unit) || index < 0 || index >= units.get(unit).size()) {
            return false;
        }
        units.get(unit).remove(index);
        return true;
    }

    boolean clear(int unit) {
        if (has(unit)) {
            units.get(unit).clear();
        }
        return has(unit);
    }

    int build() {
        definitions = new Def[n];
        for (int unit = 0; unit < u; unit++) {
            List<Def> defs = new Parser(units.get(unit)).unit();
            errors[unit] = defs != null ? -1 : errorPosition(units.get(unit));
            defCounts[unit] = defs != null ? defs.size() : 0;
            uses[unit] = new boolean[n];
            if (defs != null) {
                take(unit, defs);
            }
        }
        int count = 0;
        for (int name = 0; name < n; name++) {
            int owner = definitions[name] == null ? -1 : definitions[name].unit;
            int[] triple = {owner, status(name), status(name) == 1 ? value(name) : 0};
            changed[name] = !Arrays.equals(triple, triples[name]);
            count += changed[name] ? 1 : 0;
            triples[name] = triple;
        }
        return count;
    }

    private void take(int unit, List<Def> defs) {
        for (Def def : defs) {
            def.unit = unit;
            for (int used : def.used) {
                uses[unit][used] = true;
            }
            if (definitions[def.name] == null) {
                definitions[def.name] = def;
            }
        }
    }

    private boolean leads(int from, int to, boolean[] seen) {
        for (int used : definitions[from].used) {
            if (used == to) {
                return true;
            }
            if (definitions[used] != null && !seen[used]) {
                seen[used] = true;
                if (leads(used, to, seen)) {
                    return true;
                }
            }
        }
        return false;
    }

    private int status(int name) {
        if (definitions[name] == null) {
            return 0;
        }
        if (leads(name, name, new boolean[n])) {
            return 3;
        }
        for (int used : definitions[name].used) {
            if (definitions[used] == null) {
                return 2;
            }
        }
        for (int used : definitions[name].used) {
            if (status(used) != 1) {
                return 4;
            }
        }
        return 1;
    }

    private int value(int name) {
        return value(definitions[name].expr);
    }

    private int value(Node node) {
        switch (node.kind) {
            case 1:
                return node.value;
            case 2:
                return value(node.value);
            case 3:
                return value(node.left) + value(node.right);
            case 4:
                return (node.left == null ? 0 : value(node.left)) - value(node.right);
            default:
                return value(node.left) * value(node.right);
        }
    }

    /** The document's definition: the first prefix that no list of tokens completes. */
    private static int errorPosition(List<int[]> tokens) {
        for (int k = 0; k < tokens.size(); k++) {
            if (!completes(tokens.subList(0, k + 1))) {
                return k;
            }
        }
        return tokens.size();
    }

    private static boolean completes(List<int[]> prefix) {
        int[][] starts = {{}, {8, 1}, {1}};
        if (new Parser(prefix).unit() != null) {
            return true;
        }
        for (int[] start : starts) {
            for (int parens = 0; parens <= prefix.size(); parens++) {
                List<int[]> whole = new ArrayList<>(prefix);
                for (int kind : start) {
                    whole.add(token(kind, 0));
                }
                for (int i = 0; i < parens; i++) {
                    whole.add(token(7, 0));
                }
                whole.add(token(9, 0));
                if (new Parser(whole).unit() != null) {
                    return true;
                }
            }
        }
        return false;
    }

    private static final class Def {
        int unit;
        int name;
        Node expr;
        List<Integer> used = new ArrayList<>();
    }

    private static final class Node {
        final int kind;
        final int value;
        final Node left;
        final Node right;

        Node(int kind, int value, Node left, Node right) {
            this.kind = kind;
            this.value = value;
            this.left = left;
            this.right = right;
        }
    }

    /** One method for each rule of the grammar; null where the tokens don't derive it. */
    private static final class Parser {
        private final List<int[]> tokens;
        private int next = 0;
        private List<Integer> used;

        Parser(List<int[]> tokens) {
            this.tokens = tokens;
        }

        private boolean sees(int kind) {
            return next < tokens.size() && tokens.get(next)[0] == kind;
        }

        private boolean takes(int kind) {
            if (sees(kind)) {
                next++;
                return true;
            }
            return false;
        }

        private int lastValue() {
            return tokens.get(next - 1)[1];
        }

        List<Def> unit() {
            List<Def> defs = new ArrayList<>();
            while (next < tokens.size()) {
                Def def = def();
                if (def == null) {
                    return null;
                }
                defs.add(def);
            }
            return defs;
        }

        private Def def() {
            Def def = new Def();
            used = def.used;
            if (!takes(2)) {
                return null;
            }
            def.name = lastValue();
            if (!takes(8)) {
                return null;
            }
            def.expr = expr();
            return def.expr != null && takes(9) ? def : null;
        }

        private Node expr() {
            Node left = term();
            while (left != null && (sees(3) || sees(4))) {
                int kind = tokens.get(next++)[0];
                Node right = term();
                left = right == null ? null : new Node(kind, 0, left, right);
            }
            return left;
        }

        private Node term() {
            Node left = unary();
            while (left != null && takes(5)) {
                Node right = unary();
                left = right == null ? null : new Node(5, 0, left, right);
            }
            return left;
        }

        private Node unary() {
            if (takes(4)) {
                Node operand = unary();
                return operand == null ? null : new Node(4, 0, null, operand);
            }
            return primary();
        }

        private Node primary() {
            if (takes(1)) {
                return new Node(1, lastValue(), null, null);
            }
            if (takes(2)) {
                used.add(lastValue());
                return new Node(2, lastValue(), null, null);
            }
            if (!takes(6)) {
                return null;
            }
            Node inner = expr();
            return inner != null && takes(7) ? inner : null;
        }
    }
}
