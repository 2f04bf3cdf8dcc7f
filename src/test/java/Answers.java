import java.util.NoSuchElementException;

/** What tests of single answers share: objects to ask, and the count of answers that are not the due ones. */
abstract class Answers {
    static final int NONE = -1;
    static final int HIDDEN = -1000000;
    private static int wrong = 0;
    private static int checks = 0;

    static void due(String what, long got, long want) {
        checks++;
        if (got != want) {
            wrong++;
            System.out.println(what + " answered " + got + ", due is " + want);
        }
    }

    static void due(String what, boolean got, boolean want) {
        due(what, got ? 1 : 0, want ? 1 : 0);
    }

    /** The end of a test. */
    static void tellAll() {
        System.out.println(checks + " answers looked at, " + wrong + " wrong");
        if (wrong != 0) {
            System.exit(1);
        }
    }

    /** An object with that text on its tape. */
    static MinimalTables taped(String text) {
        MinimalTables x = new MinimalTables();
        Grammars.feed(x, text);
        return x;
    }

    /** An object with that grammar and those sentences. */
    static MinimalTables with(String grammar, String... sentences) {
        MinimalTables x = taped(grammar);
        x.text(0);
        for (String sentence : sentences) {
            Grammars.feed(x, sentence);
            x.text(1);
        }
        return x;
    }

    /** The state to which these letters lead. */
    static int stateIn(MinimalTables x, int kind, int... letters) {
        int state = 0;
        for (int letter : letters) {
            state = x.goesTo(kind, state, letter);
        }
        return state;
    }

    static boolean ruleThrows(MinimalTables x, int rule, int what) {
        try {
            x.rule(rule, what);
            return false;
        } catch (NoSuchElementException e) {
            return true;
        }
    }
}
