import java.util.NoSuchElementException;
import java.util.Random;

/** Runs of calls drawn at random, answered by the class and by the Oracle: every answer must be the same. */
public final class CompareTest {
    private static final int THROWN = Integer.MIN_VALUE;
    private static int wrong = 0;
    private static long calls = 0;
    private static final int[] seen = new int[64];

    private final Random random;
    private final MinimalTables x = new MinimalTables();
    private final Oracle y = new Oracle();
    private final StringBuilder history = new StringBuilder();
    private int left = 512;

    private CompareTest(long seed) {
        random = new Random(seed);
    }

    private void due(String call, int got, int want) {
        left--;
        calls++;
        if (history.length() < 20000) {
            history.append(call).append(" -> ").append(want).append('\n');
        }
        if (got != want) {
            wrong++;
            if (wrong < 5) {
                System.out.println(history);
            }
            System.out.println(call + " answered " + got + ", due is " + want);
        }
    }

    private void feed(String text) {
        for (int from = 0; from < text.length(); from += 20) {
            int[] n = Grammars.packed(text, from);
            due("feed(" + text.substring(from, Math.min(from + 20, text.length())) + ")",
                x.feed(n[0], n[1], n[2], n[3], n[4]), y.feed(n[0], n[1], n[2], n[3], n[4]));
        }
    }

    private void tell(String text, int sort) {
        feed(text);
        due("fault(" + sort + ")", x.fault(sort), y.fault(sort));
        due("text(" + sort + ")", x.text(sort), y.text(sort));
        if (y.count(4) > 0) {
            due("end(0)", x.end(0) ? 1 : 0, y.end(0) ? 1 : 0);
        }
    }

    private String grammar() {
        if (random.nextInt(3) == 0) {
            return Grammars.KNOWN[random.nextInt(Grammars.KNOWN.length)];
        }
        return Grammars.random(random);
    }

    private void run() {
        for (int i = random.nextInt(4); i > 0; i--) {
            tell(Grammars.sentence(random), 1);
        }
        tell(grammar(), 0);
        while (left > 20) {
            if (random.nextInt(60) == 0) {
                tell(Grammars.spoiled(grammar(), random), 0);
            } else if (random.nextInt(60) == 0) {
                tell(Grammars.spoiled(Grammars.sentence(random), random), 1);
            } else {
                callOne();
            }
        }
        // up to the last call that an object is used for
        while (left > 0) {
            callOne();
        }
    }

    /** Mostly from 0 to below the bound; now and then anything. */
    private int number(int bound) {
        int how = random.nextInt(24);
        if (how == 0) {
            return -1 - random.nextInt(2);
        }
        if (how == 1) {
            return bound + random.nextInt(3);
        }
        if (how == 2) {
            return new int[] {Integer.MIN_VALUE, Integer.MAX_VALUE, -100, 100, 99, 105, 1 << 30, -2147483548}[random.nextInt(8)];
        }
        return bound <= 0 ? 0 : random.nextInt(bound);
    }

    private int state(int kind) {
        return number(y.states(kind));
    }

    private int rules() {
        return y.count(0);
    }

    private int endings() {
        return y.count(2) + 1;
    }

    private long seed() {
        return random.nextInt(3) == 0 ? random.nextLong() : random.nextInt(100);
    }

    private void callOne() {
        int what = random.nextInt(40);
        seen[what]++;
        int kind = number(3);
        int sentence = number(y.count(3));
        int mode = number(3);
        boolean flag = random.nextBoolean();
        switch (what) {
            case 0: callRule(number(rules()), number(4)); break;
            case 1: callLetter(number(rules()), number(6)); break;
            case 2: callSign(sentence, random.nextInt(5) == 0 ? -1 : number(8)); break;
            case 3: case 4: callName(number(y.count(1)), number(5)); break;
            case 5: callTrees(number(y.count(1)), number(9), number(7)); break;
            case 6: callNames(number(4)); break;
            case 7: callToggle(number(rules())); break;
            case 8: callPrefer(number(endings())); break;
            case 9: due("undo()", x.undo(), y.undo()); break;
            case 10: due("states(" + kind + ")", x.states(kind), y.states(kind)); break;
            case 11: case 12: case 13: callLook(kind, state(kind), number(rules() + 1), number(4), flag); break;
            case 14: case 15: callState(kind, state(kind), number(6)); break;
            case 16: callGoes(kind, state(kind), random.nextBoolean() ? number(endings()) : 100 + number(y.count(1))); break;
            case 17: case 18: callAction(kind, state(kind), number(endings()), flag); break;
            case 19: callBridge(kind, state(kind), number(y.count(1)), number(endings())); break;
            case 20: callCounts(kind, number(7)); break;
            case 21: callPath(kind, state(kind), number(5)); break;
            case 22: case 23: case 24: callReads(kind, sentence, mode, number(4)); break;
            case 25: callReduced(kind, sentence, mode, number(Math.max(1, y.reads(kind, sentence, mode, 3)))); break;
            case 26: case 27: due("expects(" + kind + ", " + sentence + ")", x.expects(kind, sentence), y.expects(kind, sentence)); break;
            case 28: case 29: due("mends(" + kind + ", " + sentence + ")", x.mends(kind, sentence), y.mends(kind, sentence)); break;
            case 30: case 31: callTree(kind, sentence, number(Math.max(1, y.reads(kind, sentence, 0, 3))), number(3)); break;
            case 32: due("sorts()", x.sorts(), y.sorts()); break;
            case 33: callSame(kind, number(3), number(y.count(2) > 5 ? 4 : 5)); break;
            case 34: case 35: callWord(seed(), random.nextInt(3) == 0 ? -1 : number(12)); break;
            case 36: callKeep(seed()); break;
            case 37: due("image()", x.image(), y.image()); break;
            case 38: due("back()", x.back(), y.back()); break;
            default: callCount(number(7)); break;
        }
    }

    private void callRule(int rule, int what) {
        int got;
        int want;
        try {
            got = x.rule(rule, what);
        } catch (NoSuchElementException e) {
            got = THROWN;
        }
        try {
            want = y.rule(rule, what);
        } catch (NoSuchElementException e) {
            want = THROWN;
        }
        due("rule(" + rule + ", " + what + ")", got, want);
    }

    private void callLetter(int rule, int i) {
        due("letter(" + rule + ", " + i + ")", x.letter(rule, i), y.letter(rule, i));
    }

    private void callSign(int sentence, int i) {
        due("sign(" + sentence + ", " + i + ")", x.sign(sentence, i), y.sign(sentence, i));
    }

    private void callName(int name, int what) {
        due("name(" + name + ", " + what + ")", x.name(name, what), y.name(name, what));
    }

    private void callTrees(int name, int n, int h) {
        due("trees(" + name + ", " + n + ", " + h + ")", x.trees(name, n, h), y.trees(name, n, h));
    }

    private void callNames(int what) {
        due("names(" + what + ")", x.names(what), y.names(what));
    }

    private void callToggle(int rule) {
        due("toggle(" + rule + ")", x.toggle(rule), y.toggle(rule));
    }

    private void callPrefer(int sign) {
        due("prefer(" + sign + ")", x.prefer(sign), y.prefer(sign));
    }

    private void callLook(int kind, int state, int rule, int dot, boolean closed) {
        due("look(" + kind + ", " + state + ", " + rule + ", " + dot + ", " + closed + ")",
            x.look(kind, state, rule, dot, closed), y.look(kind, state, rule, dot, closed));
    }

    private void callState(int kind, int state, int what) {
        due("state(" + kind + ", " + state + ", " + what + ")", x.state(kind, state, what), y.state(kind, state, what));
    }

    private void callGoes(int kind, int state, int letter) {
        due("goesTo(" + kind + ", " + state + ", " + letter + ")", x.goesTo(kind, state, letter), y.goesTo(kind, state, letter));
    }

    private void callAction(int kind, int state, int sign, boolean defaults) {
        due("action(" + kind + ", " + state + ", " + sign + ", " + defaults + ")",
            x.action(kind, state, sign, defaults), y.action(kind, state, sign, defaults));
    }

    private void callBridge(int kind, int state, int name, int sign) {
        due("bridge(" + kind + ", " + state + ", " + name + ", " + sign + ")",
            x.bridge(kind, state, name, sign), y.bridge(kind, state, name, sign));
    }

    private void callCounts(int kind, int what) {
        due("counts(" + kind + ", " + what + ")", x.counts(kind, what), y.counts(kind, what));
    }

    private void callPath(int kind, int state, int i) {
        due("path(" + kind + ", " + state + ", " + i + ")", x.path(kind, state, i), y.path(kind, state, i));
    }

    private void callReads(int kind, int sentence, int mode, int what) {
        due("reads(" + kind + ", " + sentence + ", " + mode + ", " + what + ")",
            x.reads(kind, sentence, mode, what), y.reads(kind, sentence, mode, what));
    }

    private void callReduced(int kind, int sentence, int mode, int i) {
        due("reduced(" + kind + ", " + sentence + ", " + mode + ", " + i + ")",
            x.reduced(kind, sentence, mode, i), y.reduced(kind, sentence, mode, i));
    }

    private void callTree(int kind, int sentence, int i, int what) {
        due("tree(" + kind + ", " + sentence + ", " + i + ", " + what + ")",
            x.tree(kind, sentence, i, what), y.tree(kind, sentence, i, what));
    }

    private void callSame(int one, int other, int m) {
        due("same(" + one + ", " + other + ", " + m + ")", x.same(one, other, m), y.same(one, other, m));
    }

    private void callWord(long seed, int i) {
        due("word(" + seed + ", " + i + ")", x.word(seed, i), y.word(seed, i));
    }

    private void callKeep(long seed) {
        due("keep(" + seed + ")", x.keep(seed), y.keep(seed));
    }

    private void callCount(int what) {
        due("count(" + what + ")", x.count(what), y.count(what));
    }

    public static void main(String[] args) {
        long from = args.length > 0 ? Long.parseLong(args[0]) : 1;
        int runs = args.length > 1 ? Integer.parseInt(args[1]) : 120;
        for (int i = 0; i < runs && wrong == 0; i++) {
            new CompareTest(from + i).run();
        }
        System.out.println(calls + " calls compared, " + wrong + " unlike");
        if (wrong != 0) {
            System.exit(1);
        }
    }
}
