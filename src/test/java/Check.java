/** What the tests share: counting wrong answers, and units written as text. */
final class Check {
    private int wrong = 0;

    void due(String call, long got, long want) {
        if (got != want) {
            wrong++;
            System.out.println(call + " answered " + got + ", due is " + want);
        }
    }

    void due(String call, boolean got, boolean want) {
        due(call, got ? 1L : 0L, want ? 1L : 0L);
    }

    void end() {
        System.out.println(wrong == 0 ? "all answers are as due" : wrong + " answers are not as due");
        if (wrong != 0) {
            System.exit(1);
        }
    }

    /** Tokens stand apart by blanks; a letter is a name (a is 0), and "-5" is one literal. */
    void fill(NameHashBuilder x, int unit, String text) {
        due("clearUnit(" + unit + ")", x.clearUnit(unit), true);
        for (String word : words(text)) {
            int kind = kindOf(word);
            int value = valueOf(word);
            String call = "append(" + unit + ", " + kind + ", " + value + ") of [" + text + "]";
            due(call, x.append(unit, kind, value), true);
        }
    }

    /** The tokens of a unit, as getLength, getTokenKind and getTokenValue tell them. */
    void dueTokens(String when, NameHashBuilder x, int unit, String text) {
        String[] words = words(text);
        due(when + ": getLength(" + unit + ")", x.getLength(unit), words.length);
        for (int i = 0; i < words.length; i++) {
            String at = "(" + unit + ", " + i + ")";
            due(when + ": getTokenKind" + at, x.getTokenKind(unit, i), kindOf(words[i]));
            due(when + ": getTokenValue" + at, x.getTokenValue(unit, i), valueOf(words[i]));
        }
        String past = "(" + unit + ", " + words.length + ")";
        due(when + ": getTokenKind" + past, x.getTokenKind(unit, words.length), 0);
        due(when + ": getTokenValue" + past, x.getTokenValue(unit, words.length), 0);
    }

    void dueName(String when, NameHashBuilder x, int name, int owner, int status, int value) {
        due(when + ": getOwner(" + name + ")", x.getOwner(name), owner);
        due(when + ": getStatus(" + name + ")", x.getStatus(name), status);
        due(when + ": getValue(" + name + ")", x.getValue(name), value);
    }

    /** Every build result of a U x N object in one text, to see whether any of them moved. */
    static String results(NameHashBuilder x, int units, int names) {
        StringBuilder all = new StringBuilder();
        for (int unit = 0; unit < units; unit++) {
            all.append(x.getUnitError(unit)).append('/').append(x.getDefCount(unit)).append(':');
            for (int name = 0; name < names; name++) {
                all.append(x.usesName(unit, name) ? 'u' : '.');
            }
            all.append(' ');
        }
        for (int name = 0; name < names; name++) {
            all.append(x.getOwner(name)).append(',').append(x.getStatus(name)).append(',');
            all.append(x.getValue(name)).append(x.isChanged(name) ? "! " : " ");
        }
        return all.toString();
    }

    void same(String when, String got, String want) {
        due(when + ": [" + got + "] is as [" + want + "]", got.equals(want), true);
    }

    private static String[] words(String text) {
        String trimmed = text.trim();
        return trimmed.isEmpty() ? new String[0] : trimmed.split(" +");
    }

    private static int kindOf(String word) {
        int sign = "+-*()=;".indexOf(word);
        if (sign >= 0) {
            return NameHashBuilder.K_PLUS + sign;
        }
        return Character.isLetter(word.charAt(0)) ? NameHashBuilder.K_NAME : NameHashBuilder.K_NUM;
    }

    private static int valueOf(String word) {
        switch (kindOf(word)) {
            case NameHashBuilder.K_NUM:
                return Integer.parseInt(word);
            case NameHashBuilder.K_NAME:
                return word.charAt(0) - 'a';
            default:
                return 0;
        }
    }
}
