/** What the tests share: counting wrong answers, and units written as text. */
final class Check {
    static final int MIN = Integer.MIN_VALUE;
    static final int MAX = Integer.MAX_VALUE;

    private String sentence = "";
    private boolean wornObjects = false;
    private long answers = 0;
    private long wrong = 0;

    /**
     * Runs the test of one sentence of the document, once on new objects and once on worn ones; a
     * wrong answer is told with the sentence.
     */
    void sentence(String text, Runnable test) {
        run("[" + text + "] ", test);
        wornObjects = true;
        run("[" + text + ", after a long run of calls] ", test);
        wornObjects = false;
    }

    private void run(String title, Runnable test) {
        long before = answers;
        sentence = title;
        try {
            test.run();
        } catch (RuntimeException | StackOverflowError thrown) {
            wrong++;
            System.out.println(sentence + "threw " + thrown);
        }
        due("the test looked at an answer", answers > before, true);
        sentence = "";
    }

    /** The object that the test of a sentence works on. */
    NameHashBuilder object(int units, int tokensPerUnit, int names) {
        return wornObjects ? Worn.object(units, tokensPerUnit, names)
                : new NameHashBuilder(units, tokensPerUnit, names);
    }

    void due(String call, long got, long want) {
        answers++;
        if (got != want) {
            wrong++;
            System.out.println(sentence + call + " answered " + got + ", due is " + want);
        }
    }

    void due(String call, boolean got, boolean want) {
        due(call, got ? 1L : 0L, want ? 1L : 0L);
    }

    void end() {
        System.out.println(wrong == 0 ? "all answers are as due" : wrong + " answers are not as due");
        if (wrong != 0) {
            System.exit(1);
        }
    }

    /** Tokens stand apart by blanks; a letter is a name (a is 0), and "-5" is one literal. */
    void fill(NameHashBuilder x, int unit, String text) {
        due("clearUnit(" + unit + ")", x.clearUnit(unit), true);
        for (String word : words(text)) {
            int kind = kindOf(word);
            int value = valueOf(word);
            String call = "append(" + unit + ", " + kind + ", " + value + ") of [" + text + "]";
            due(call, x.append(unit, kind, value), true);
        }
    }

    /** The tokens of a unit, as getLength, getTokenKind and getTokenValue tell them. */
    void dueTokens(String when, NameHashBuilder x, int unit, String text) {
        String[] words = words(text);
        due(when + ": getLength(" + unit + ")", x.getLength(unit), words.length);
        for (int i = 0; i < words.length; i++) {
            dueToken(when, x, unit, i, kindOf(words[i]), valueOf(words[i]));
        }
        dueToken(when, x, unit, words.length, 0, 0);
    }

    void dueToken(String when, NameHashBuilder x, int unit, int index, int kind, int value) {
        String at = "(" + unit + ", " + index + ")";
        due(when + ": getTokenKind" + at, x.getTokenKind(unit, index), kind);
        due(when + ": getTokenValue" + at, x.getTokenValue(unit, index), value);
    }

    void dueUnit(String when, NameHashBuilder x, int unit, int error, int defs) {
        due(when + ": getUnitError(" + unit + ")", x.getUnitError(unit), error);
        due(when + ": getDefCount(" + unit + ")", x.getDefCount(unit), defs);
    }

    /** The unit uses the names of these letters and no other one. */
    void dueUses(String when, NameHashBuilder x, int unit, String letters) {
        for (int name = 0; name < 16; name++) {
            boolean used = letters.indexOf('a' + name) >= 0;
            due(when + ": usesName(" + unit + ", " + name + ")", x.usesName(unit, name), used);
        }
    }

    void dueName(String when, NameHashBuilder x, int name, int owner, int status, int value) {
        due(when + ": getOwner(" + name + ")", x.getOwner(name), owner);
        due(when + ": getStatus(" + name + ")", x.getStatus(name), status);
        due(when + ": getValue(" + name + ")", x.getValue(name), value);
    }

    /** The statuses of names 0, 1 and so on; a name that isn't ok has value 0. */
    void dueStatuses(String when, NameHashBuilder x, int... statuses) {
        for (int name = 0; name < statuses.length; name++) {
            due(when + ": getStatus(" + name + ")", x.getStatus(name), statuses[name]);
            if (statuses[name] != NameHashBuilder.ST_OK) {
                due(when + ": getValue(" + name + ")", x.getValue(name), 0);
            }
        }
    }

    /** The names of these letters, and no other one, are changed by the last build. */
    void dueChanged(String when, NameHashBuilder x, String letters) {
        for (int name = 0; name < 16; name++) {
            boolean changed = letters.indexOf('a' + name) >= 0;
            due(when + ": isChanged(" + name + ")", x.isChanged(name), changed);
        }
    }

    void dueBuild(String when, NameHashBuilder x, String changedLetters) {
        due(when + ": build()", x.build(), changedLetters.length());
        dueChanged(when, x, changedLetters);
    }

    /** Four units of 32 tokens and eight names, a to h, with these units filled. */
    NameHashBuilder filled(String... units) {
        NameHashBuilder x = object(4, 32, 8);
        fillAll(x, units);
        return x;
    }

    NameHashBuilder built(String... units) {
        NameHashBuilder x = filled(units);
        x.build();
        return x;
    }

    /** As built, and always on a new object. */
    NameHashBuilder newlyBuilt(String... units) {
        NameHashBuilder x = new NameHashBuilder(4, 32, 8);
        fillAll(x, units);
        x.build();
        return x;
    }

    private void fillAll(NameHashBuilder x, String[] units) {
        for (int unit = 0; unit < units.length; unit++) {
            fill(x, unit, units[unit]);
        }
    }

    /** Every build result in one text, to see whether any of them moved. */
    static String results(NameHashBuilder x) {
        return meaning(x) + " changed " + changes(x);
    }

    /** The build results but for the changed flags. Sizes don't matter: what is outside stays the same. */
    static String meaning(NameHashBuilder x) {
        StringBuilder all = new StringBuilder();
        for (int unit = -1; unit <= 8; unit++) {
            all.append(x.getUnitError(unit)).append('/').append(x.getDefCount(unit)).append(':');
            for (int name = -1; name <= 16; name++) {
                all.append(x.usesName(unit, name) ? 'u' : '.');
            }
            all.append(' ');
        }
        for (int name = -1; name <= 16; name++) {
            all.append(x.getOwner(name)).append(',').append(x.getStatus(name)).append(',');
            all.append(x.getValue(name)).append(' ');
        }
        return all.toString();
    }

    /** Every token and length in one text. */
    static String tokens(NameHashBuilder x) {
        StringBuilder all = new StringBuilder();
        for (int unit = -1; unit <= 8; unit++) {
            all.append(x.getLength(unit)).append(':');
            for (int index = -1; index <= 32; index++) {
                all.append(x.getTokenKind(unit, index)).append('_');
                all.append(x.getTokenValue(unit, index)).append(' ');
            }
        }
        return all.toString();
    }

    /** All that the object tells. */
    static String state(NameHashBuilder x) {
        return tokens(x) + results(x);
    }

    private static String changes(NameHashBuilder x) {
        StringBuilder all = new StringBuilder();
        for (int name = -1; name <= 16; name++) {
            all.append(x.isChanged(name) ? '!' : '.');
        }
        return all.toString();
    }

    void same(String when, String got, String want) {
        due(when + ": [" + got + "] is as [" + want + "]", got.equals(want), true);
    }

    static String[] words(String text) {
        String trimmed = text.trim();
        return trimmed.isEmpty() ? new String[0] : trimmed.split(" +");
    }

    static int kindOf(String word) {
        int sign = "+-*()=;".indexOf(word);
        if (sign >= 0) {
            return NameHashBuilder.K_PLUS + sign;
        }
        return Character.isLetter(word.charAt(0)) ? NameHashBuilder.K_NAME : NameHashBuilder.K_NUM;
    }

    static int valueOf(String word) {
        switch (kindOf(word)) {
            case NameHashBuilder.K_NUM:
                return Integer.parseInt(word);
            case NameHashBuilder.K_NAME:
                return word.charAt(0) - 'a';
            default:
                return 0;
        }
    }
}
