public final class NameHashBuilder {
    public static final int K_NUM = 1;
    public static final int K_NAME = 2;
    public static final int K_PLUS = 3;
    public static final int K_MINUS = 4;
    public static final int K_STAR = 5;
    public static final int K_LPAREN = 6;
    public static final int K_RPAREN = 7;
    public static final int K_ASSIGN = 8;
    public static final int K_SEMI = 9;
    public static final int ST_NODEF = 0;
    public static final int ST_OK = 1;
    public static final int ST_UNDEF = 2;
    public static final int ST_CYCLE = 3;
    public static final int ST_BROKEN = 4;
    public static final int UNIT_OK = -1;
    public static final int BAD_UNIT = -2;

    private static final int MIN_UNITS = 2;
    private static final int MAX_UNITS = 8;
    private static final int MIN_TOKENS = 8;
    private static final int MAX_TOKENS = 32;
    private static final int MIN_NAMES = 4;
    private static final int MAX_NAMES = 16;
    private static final int ALL_TOKENS = MAX_UNITS * MAX_TOKENS;

    private static final int NO_OWNER = -1;
    private static final int NO_NAME = -1;
    private static final int UNDECIDED = -1;

    // What the parser wants next. REJECTED: no list that goes on from here is a unit.
    private static final int WANT_DEF = 0;
    private static final int WANT_ASSIGN = 1;
    private static final int WANT_OPERAND = 2;
    private static final int WANT_OPERATOR = 3;
    private static final int REJECTED = 4;

    private final int unitCount;
    private final int tokenLimit;
    private final int nameCount;

    // The tokens of unit u lie at u * MAX_TOKENS and on.
    private final int[] kinds = new int[ALL_TOKENS];
    private final int[] values = new int[ALL_TOKENS];
    private final int[] lengths = new int[MAX_UNITS];

    // Build results. A set of names is an int whose bit n stands for name n.
    private final int[] unitErrors = new int[MAX_UNITS];
    private final int[] defCounts = new int[MAX_UNITS];
    private final int[] unitUses = new int[MAX_UNITS];
    private final int[] owners = new int[MAX_NAMES];
    private final int[] statuses = new int[MAX_NAMES];
    private final int[] results = new int[MAX_NAMES];
    private final boolean[] changed = new boolean[MAX_NAMES];

    // A build under way writes here, so that it can be compared with the build before it.
    private final int[] newOwners = new int[MAX_NAMES];
    private final int[] newStatuses = new int[MAX_NAMES];
    private final int[] newResults = new int[MAX_NAMES];
    private final int[] exprStarts = new int[MAX_NAMES];
    private final int[] nameUses = new int[MAX_NAMES];
    private final int[] reached = new int[MAX_NAMES];
    private int ownedNames;
    private int okNames;
    private int failedNames;

    // The expr being evaluated: see evaluate.
    private final int[] outerTotals = new int[MAX_TOKENS];
    private final int[] outerProducts = new int[MAX_TOKENS];
    private int depth;
    private int total;
    private int product;

    public NameHashBuilder(int units, int tokensPerUnit, int names) {
        unitCount = clamp(units, MIN_UNITS, MAX_UNITS);
        tokenLimit = clamp(tokensPerUnit, MIN_TOKENS, MAX_TOKENS);
        nameCount = clamp(names, MIN_NAMES, MAX_NAMES);
        for (int unit = 0; unit < MAX_UNITS; unit++) {
            unitErrors[unit] = UNIT_OK;
        }
        for (int name = 0; name < MAX_NAMES; name++) {
            owners[name] = NO_OWNER;
            statuses[name] = ST_NODEF;
        }
    }

    public boolean append(int unit, int kind, int value) {
        if (!hasUnit(unit) || !isToken(kind, value) || lengths[unit] >= tokenLimit) {
            return false;
        }
        putToken(unit, lengths[unit], kind, value);
        lengths[unit]++;
        return true;
    }

    public boolean setToken(int unit, int index, int kind, int value) {
        if (!holdsToken(unit, index) || !isToken(kind, value)) {
            return false;
        }
        putToken(unit, index, kind, value);
        return true;
    }

    public boolean insertToken(int unit, int index, int kind, int value) {
        if (!hasUnit(unit) || index < 0 || index > lengths[unit]) {
            return false;
        }
        if (!isToken(kind, value) || lengths[unit] >= tokenLimit) {
            return false;
        }
        // From the end, so that no token is overwritten before it has moved.
        for (int i = lengths[unit]; i > index; i--) {
            moveToken(unit, i - 1, i);
        }
        putToken(unit, index, kind, value);
        lengths[unit]++;
        return true;
    }

    public boolean deleteToken(int unit, int index) {
        if (!holdsToken(unit, index)) {
            return false;
        }
        for (int i = index + 1; i < lengths[unit]; i++) {
            moveToken(unit, i, i - 1);
        }
        lengths[unit]--;
        return true;
    }

    public boolean clearUnit(int unit) {
        if (!hasUnit(unit)) {
            return false;
        }
        lengths[unit] = 0;
        return true;
    }

    public int build() {
        forgetDefinitions();
        // Upwards, so that the first def met of a name is the one that counts.
        for (int unit = 0; unit < unitCount; unit++) {
            readUnit(unit);
        }
        findReachedNames();
        for (int name = 0; name < nameCount; name++) {
            decideFromGraph(name);
        }
        decideTheRest();
        return publishNames();
    }

    public int getLength(int unit) {
        return hasUnit(unit) ? lengths[unit] : -1;
    }

    public int getTokenKind(int unit, int index) {
        return holdsToken(unit, index) ? kinds[unit * MAX_TOKENS + index] : 0;
    }

    public int getTokenValue(int unit, int index) {
        return holdsToken(unit, index) ? values[unit * MAX_TOKENS + index] : 0;
    }

    public int getUnitError(int unit) {
        return hasUnit(unit) ? unitErrors[unit] : BAD_UNIT;
    }

    public int getDefCount(int unit) {
        return hasUnit(unit) ? defCounts[unit] : -1;
    }

    public boolean usesName(int unit, int name) {
        return hasUnit(unit) && hasName(name) && contains(unitUses[unit], name);
    }

    public int getOwner(int name) {
        return hasName(name) ? owners[name] : NO_OWNER;
    }

    public int getStatus(int name) {
        return hasName(name) ? statuses[name] : ST_NODEF;
    }

    public int getValue(int name) {
        return hasName(name) ? results[name] : 0;
    }

    public boolean isChanged(int name) {
        return hasName(name) && changed[name];
    }

    private static int clamp(int value, int least, int greatest) {
        if (value < least) {
            return least;
        }
        return value > greatest ? greatest : value;
    }

    private static boolean contains(int nameSet, int name) {
        return (nameSet & (1 << name)) != 0;
    }

    private boolean hasUnit(int unit) {
        return unit >= 0 && unit < unitCount;
    }

    private boolean hasName(int name) {
        return name >= 0 && name < nameCount;
    }

    private boolean holdsToken(int unit, int index) {
        return hasUnit(unit) && index >= 0 && index < lengths[unit];
    }

    private boolean isToken(int kind, int value) {
        if (kind == K_NAME) {
            return hasName(value);
        }
        return kind >= K_NUM && kind <= K_SEMI;
    }

    private void putToken(int unit, int index, int kind, int value) {
        int at = unit * MAX_TOKENS + index;
        kinds[at] = kind;
        values[at] = kind == K_NUM || kind == K_NAME ? value : 0;
    }

    private void moveToken(int unit, int from, int to) {
        int start = unit * MAX_TOKENS;
        kinds[start + to] = kinds[start + from];
        values[start + to] = values[start + from];
    }

    private void forgetDefinitions() {
        for (int name = 0; name < nameCount; name++) {
            newOwners[name] = NO_OWNER;
            nameUses[name] = 0;
        }
        ownedNames = 0;
        okNames = 0;
        failedNames = 0;
    }

    private void readUnit(int unit) {
        unitErrors[unit] = findError(unit);
        defCounts[unit] = 0;
        unitUses[unit] = 0;
        if (unitErrors[unit] == UNIT_OK) {
            readDefs(unit);
        }
    }

    // A token that the parser takes can always be followed by tokens that end the unit well,
    // so the first one that it rejects is the error position.
    private int findError(int unit) {
        int state = WANT_DEF;
        int openParens = 0;
        for (int i = 0; i < lengths[unit]; i++) {
            int kind = kinds[unit * MAX_TOKENS + i];
            state = nextState(state, kind, openParens);
            if (state == REJECTED) {
                return i;
            }
            if (kind == K_LPAREN) {
                openParens++;
            } else if (kind == K_RPAREN) {
                openParens--;
            }
        }
        return state == WANT_DEF ? UNIT_OK : lengths[unit];
    }

    private static int nextState(int state, int kind, int openParens) {
        switch (state) {
            case WANT_DEF:
                return kind == K_NAME ? WANT_ASSIGN : REJECTED;
            case WANT_ASSIGN:
                return kind == K_ASSIGN ? WANT_OPERAND : REJECTED;
            case WANT_OPERAND:
                return stateInOperand(kind);
            default:
                return stateAfterOperand(kind, openParens);
        }
    }

    private static int stateInOperand(int kind) {
        switch (kind) {
            case K_NUM:
            case K_NAME:
                return WANT_OPERATOR;
            case K_MINUS:
            case K_LPAREN:
                return WANT_OPERAND;
            default:
                return REJECTED;
        }
    }

    private static int stateAfterOperand(int kind, int openParens) {
        switch (kind) {
            case K_PLUS:
            case K_MINUS:
            case K_STAR:
                return WANT_OPERAND;
            case K_RPAREN:
                return openParens > 0 ? WANT_OPERATOR : REJECTED;
            case K_SEMI:
                return openParens == 0 ? WANT_DEF : REJECTED;
            default:
                return REJECTED;
        }
    }

    private void readDefs(int unit) {
        boolean atDefStart = true;
        int definedName = NO_NAME;
        for (int i = 0; i < lengths[unit]; i++) {
            int kind = kinds[unit * MAX_TOKENS + i];
            int value = values[unit * MAX_TOKENS + i];
            if (kind == K_SEMI) {
                defCounts[unit]++;
                atDefStart = true;
            } else if (kind == K_NAME && atDefStart) {
                definedName = claimName(value, unit, i);
                atDefStart = false;
            } else if (kind == K_NAME) {
                noteUse(unit, definedName, value);
            }
        }
    }

    // Answers NO_NAME for a def that is ignored, so that its uses aren't taken for the name's.
    private int claimName(int name, int unit, int index) {
        if (newOwners[name] != NO_OWNER) {
            return NO_NAME;
        }
        newOwners[name] = unit;
        exprStarts[name] = index + 2;
        ownedNames |= 1 << name;
        return name;
    }

    private void noteUse(int unit, int definedName, int usedName) {
        unitUses[unit] |= 1 << usedName;
        if (definedName != NO_NAME) {
            nameUses[definedName] |= 1 << usedName;
        }
    }

    // Warshall's closure: after the round of a name, all paths that pass only through the names
    // up to it are known.
    private void findReachedNames() {
        for (int name = 0; name < nameCount; name++) {
            reached[name] = nameUses[name] & ownedNames;
        }
        for (int through = 0; through < nameCount; through++) {
            for (int name = 0; name < nameCount; name++) {
                if (contains(reached[name], through)) {
                    reached[name] |= reached[through];
                }
            }
        }
    }

    private void decideFromGraph(int name) {
        newResults[name] = 0;
        if (!contains(ownedNames, name)) {
            newStatuses[name] = ST_NODEF;
        } else if (contains(reached[name], name)) {
            fail(name, ST_CYCLE);
        } else if ((nameUses[name] & ~ownedNames) != 0) {
            fail(name, ST_UNDEF);
        } else {
            newStatuses[name] = UNDECIDED;
        }
    }

    private void fail(int name, int status) {
        newStatuses[name] = status;
        failedNames |= 1 << name;
    }

    // The undecided names use each other without a cycle, so each round decides at least one of
    // them, and as many rounds as there are names decide them all.
    private void decideTheRest() {
        for (int round = 0; round < nameCount; round++) {
            for (int name = 0; name < nameCount; name++) {
                if (newStatuses[name] == UNDECIDED) {
                    decideFromUses(name);
                }
            }
        }
    }

    private void decideFromUses(int name) {
        if ((nameUses[name] & failedNames) != 0) {
            fail(name, ST_BROKEN);
        } else if ((nameUses[name] & ~okNames) == 0) {
            newStatuses[name] = ST_OK;
            newResults[name] = evaluate(name);
            okNames |= 1 << name;
        }
    }

    // Wrapping int arithmetic is a ring: an expr is a sum of products, and a minus sign before a
    // term or a factor can go into the product at once. So a level of parentheses needs only the
    // total of its finished terms and the product so far of the open one.
    private int evaluate(int name) {
        int start = newOwners[name] * MAX_TOKENS;
        int end = start + lengths[newOwners[name]];
        boolean afterOperand = false;
        depth = 0;
        total = 0;
        product = 1;
        for (int i = start + exprStarts[name]; i < end && kinds[i] != K_SEMI; i++) {
            evaluateToken(kinds[i], values[i], afterOperand);
            afterOperand = kinds[i] == K_NUM || kinds[i] == K_NAME || kinds[i] == K_RPAREN;
        }
        return total + product;
    }

    private void evaluateToken(int kind, int value, boolean afterOperand) {
        switch (kind) {
            case K_NUM:
                product *= value;
                break;
            case K_NAME:
                product *= newResults[value];
                break;
            case K_PLUS:
                startTerm(1);
                break;
            case K_MINUS:
                if (afterOperand) {
                    startTerm(-1);
                } else {
                    product = -product;
                }
                break;
            case K_LPAREN:
                enterParens();
                break;
            case K_RPAREN:
                leaveParens();
                break;
            default:
                break;
        }
    }

    private void startTerm(int sign) {
        total += product;
        product = sign;
    }

    private void enterParens() {
        if (depth < MAX_TOKENS) {
            outerTotals[depth] = total;
            outerProducts[depth] = product;
            depth++;
            total = 0;
            product = 1;
        }
    }

    private void leaveParens() {
        if (depth > 0) {
            depth--;
            product = outerProducts[depth] * (total + product);
            total = outerTotals[depth];
        }
    }

    private int publishNames() {
        int count = 0;
        for (int name = 0; name < nameCount; name++) {
            changed[name] = owners[name] != newOwners[name]
                    || statuses[name] != newStatuses[name]
                    || results[name] != newResults[name];
            if (changed[name]) {
                count++;
            }
            owners[name] = newOwners[name];
            statuses[name] = newStatuses[name];
            results[name] = newResults[name];
        }
        return count;
    }
}
