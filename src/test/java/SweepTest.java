import java.util.Random;

/** Every known grammar, and all that can be asked of it, held against the Oracle. */
public final class SweepTest {
    private static int wrong = 0;
    private static long answers = 0;

    private final String grammar;
    private MinimalTables x;
    private Oracle y;

    private SweepTest(String grammar) {
        this.grammar = grammar;
    }

    private void due(int got, int want, String call, int... arguments) {
        answers++;
        if (got != want) {
            wrong++;
            if (wrong < 20) {
                System.out.println(grammar + ": " + call + java.util.Arrays.toString(arguments)
                    + " answered " + got + ", due is " + want);
            }
        }
    }

    private void tell(String text, int sort) {
        for (int from = 0; from < text.length(); from += 20) {
            int[] n = Grammars.packed(text, from);
            x.feed(n[0], n[1], n[2], n[3], n[4]);
            y.feed(n[0], n[1], n[2], n[3], n[4]);
        }
        due(x.text(sort), y.text(sort), "text", sort);
    }

    private void begin() {
        x = new MinimalTables();
        y = new Oracle();
        tell(grammar, 0);
    }

    private void sweepNames() {
        for (int name = -1; name <= y.count(1); name++) {
            for (int what = -1; what <= 5; what++) {
                due(x.name(name, what), y.name(name, what), "name", name, what);
            }
            for (int n = -1; n <= 9; n++) {
                for (int h = -1; h <= 7; h++) {
                    due(x.trees(name, n, h), y.trees(name, n, h), "trees", name, n, h);
                }
            }
        }
        for (int what = -1; what <= 4; what++) {
            due(x.names(what), y.names(what), "names", what);
        }
        for (int seed = 0; seed < 30; seed++) {
            for (int i = -2; i < 8; i++) {
                due(x.word(seed, i), y.word(seed, i), "word", seed, i);
            }
        }
        due(x.sorts(), y.sorts(), "sorts");
    }

    private void sweepStates(int kind) {
        int states = y.states(kind);
        due(x.states(kind), states, "states", kind);
        for (int state = -1; state <= states; state++) {
            for (int rule = -1; rule <= y.count(0) + 1; rule++) {
                for (int dot = -1; dot <= 6; dot++) {
                    due(x.look(kind, state, rule, dot, false), y.look(kind, state, rule, dot, false), "kernel", kind, state, rule, dot);
                    due(x.look(kind, state, rule, dot, true), y.look(kind, state, rule, dot, true), "closure", kind, state, rule, dot);
                }
            }
            for (int sign = -1; sign <= 9; sign++) {
                due(x.goesTo(kind, state, sign), y.goesTo(kind, state, sign), "goesTo", kind, state, sign);
                due(x.action(kind, state, sign, false), y.action(kind, state, sign, false), "action", kind, state, sign);
                due(x.action(kind, state, sign, true), y.action(kind, state, sign, true), "by default", kind, state, sign);
                for (int name = -1; name <= 6; name++) {
                    due(x.bridge(kind, state, name, sign), y.bridge(kind, state, name, sign), "bridge", kind, state, name, sign);
                }
            }
            for (int name = 99; name <= 106; name++) {
                due(x.goesTo(kind, state, name), y.goesTo(kind, state, name), "goesTo", kind, state, name);
            }
        }
        for (int what = -1; what <= 7; what++) {
            due(x.counts(kind, what), y.counts(kind, what), "counts", kind, what);
        }
    }

    /** Not all of the largest ones: the Oracle finds each path anew. */
    private void sweepPaths(int kind) {
        int by = y.states(kind) > 60 ? 13 : 1;
        for (int state = 0; state < y.states(kind); state += by) {
            for (int what = -1; what <= 6; what++) {
                due(x.state(kind, state, what), y.state(kind, state, what), "state", kind, state, what);
            }
            int letters = y.state(kind, state, 5);
            for (int i = -1; i <= letters; i++) {
                due(x.path(kind, state, i), y.path(kind, state, i), "path", kind, state, i);
            }
        }
    }

    private void sweepSentence(int kind, int sentence) {
        for (int mode = -1; mode <= 3; mode++) {
            for (int what = -1; what <= 4; what++) {
                due(x.reads(kind, sentence, mode, what), y.reads(kind, sentence, mode, what), "reads", kind, sentence, mode, what);
            }
            int rules = Math.min(30, y.reads(kind, sentence, mode, 3));
            for (int i = -1; i <= rules; i++) {
                due(x.reduced(kind, sentence, mode, i), y.reduced(kind, sentence, mode, i), "reduced", kind, sentence, mode, i);
                for (int what = -1; what <= 3; what++) {
                    due(x.tree(kind, sentence, i, what), y.tree(kind, sentence, i, what), "tree", kind, sentence, i, what);
                }
            }
        }
        due(x.expects(kind, sentence), y.expects(kind, sentence), "expects", kind, sentence);
        due(x.mends(kind, sentence), y.mends(kind, sentence), "mends", kind, sentence);
    }

    private void sweepSentences(Random random) {
        for (int round = 0; round < 3; round++) {
            begin();
            for (int i = 0; i < 4; i++) {
                if (round == 2) {
                    due(x.keep(i), y.keep(i), "keep", i);
                } else {
                    tell(round == 0 && i == 0 ? "" : Grammars.sentence(random), 1);
                }
            }
            for (int kind = 0; kind < 3; kind++) {
                for (int sentence = -1; sentence <= y.count(3); sentence++) {
                    sweepSentence(kind, sentence);
                }
            }
        }
    }

    private void sweepSame() {
        for (int one = 0; one < 3; one++) {
            for (int other = 0; other < 3; other++) {
                for (int m = -1; m <= (y.count(2) > 4 ? 3 : 5); m++) {
                    due(x.same(one, other, m), y.same(one, other, m), "same", one, other, m);
                }
            }
        }
    }

    private void run() {
        Random random = new Random(grammar.length());
        for (int round = 0; round < 2; round++) {
            begin();
            if (round == 1) {
                for (int sign = 0; sign <= y.count(2); sign += 2) {
                    due(x.prefer(sign), y.prefer(sign), "prefer", sign);
                }
                due(x.toggle(y.count(0) - 1), y.toggle(y.count(0) - 1), "toggle");
            }
            sweepNames();
            sweepSame();
            for (int kind = -1; kind <= 3; kind++) {
                sweepStates(kind);
                sweepPaths(kind);
            }
        }
        sweepSentences(random);
    }

    public static void main(String[] args) {
        for (String grammar : Grammars.KNOWN) {
            new SweepTest(grammar).run();
        }
        System.out.println(answers + " answers compared, " + wrong + " unlike");
        if (wrong != 0) {
            System.exit(1);
        }
    }
}
