import java.util.ArrayList;
import java.util.List;
import java.util.NoSuchElementException;
import java.util.Set;
import java.util.TreeSet;
import java.util.function.Supplier;

/**
 * "What is refused answers as told and changes nothing." Of two objects made alike one is asked what is refused (or what
 * only tells); all that later calls answer must be the same then.
 */
public final class RefusedTest extends Answers {
    private static final int THROWN = Integer.MIN_VALUE;
    /** So that no object is called more than 512 times. */
    private static final int BLOCK = 300;
    private static final int[] ODD = {Integer.MIN_VALUE, -1000000, -100, -2, -1, 3, 4, 6, 9, 16, 17, 99, 106, 200, 1000,
        Integer.MAX_VALUE};

    private interface Ask {
        int of(MinimalTables x);
    }

    private record Call(String name, Ask ask) {
    }

    private static final List<Call> telling = new ArrayList<>();
    private static final List<Call> changing = new ArrayList<>();
    private static final Set<String> refused = new TreeSet<>();
    private static int twins = 0;

    private static int ruleOf(MinimalTables x, int rule, int what) {
        try {
            return x.rule(rule, what);
        } catch (NoSuchElementException e) {
            return THROWN;
        }
    }

    private static void tells(String name, Ask ask) {
        telling.add(new Call(name, ask));
    }

    private static void changes(String name, Ask ask) {
        changing.add(new Call(name, ask));
    }

    private static void listTelling() {
        for (int odd : ODD) {
            tells("fault(" + odd + ")", x -> x.fault(odd));
            tells("rule(" + odd + ", 0)", x -> ruleOf(x, odd, 0));
            tells("rule(0, " + odd + ")", x -> ruleOf(x, 0, odd));
            tells("letter(" + odd + ", 0)", x -> x.letter(odd, 0));
            tells("letter(0, " + odd + ")", x -> x.letter(0, odd));
            tells("sign(" + odd + ", 0)", x -> x.sign(odd, 0));
            tells("sign(0, " + odd + ")", x -> x.sign(0, odd));
            tells("name(" + odd + ", 1)", x -> x.name(odd, 1));
            tells("name(0, " + odd + ")", x -> x.name(0, odd));
            tells("trees(" + odd + ", 1, 1)", x -> x.trees(odd, 1, 1));
            tells("trees(0, " + odd + ", 1)", x -> x.trees(0, odd, 1));
            tells("trees(0, 1, " + odd + ")", x -> x.trees(0, 1, odd));
            tells("names(" + odd + ")", x -> x.names(odd));
            tells("word(1, " + odd + ")", x -> x.word(1, odd));
            tells("count(" + odd + ")", x -> x.count(odd));
            tells("same(" + odd + ", 1, 2)", x -> x.same(odd, 1, 2));
            tells("same(0, " + odd + ", 2)", x -> x.same(0, odd, 2));
            tells("same(0, 2, " + odd + ")", x -> x.same(0, 2, odd));
        }
        for (int odd : ODD) {
            for (int kind : new int[] {0, 2, odd}) {
                listOfAutomaton(kind, odd);
            }
        }
        tells("sorts()", MinimalTables::sorts);
    }

    private static void listOfAutomaton(int kind, int odd) {
        tells("states(" + kind + ")", x -> x.states(kind));
        tells("look(" + kind + ", " + odd + ", 0, 0, true)", x -> x.look(kind, odd, 0, 0, true));
        tells("look(" + kind + ", 0, " + odd + ", 0, true)", x -> x.look(kind, 0, odd, 0, true));
        tells("look(" + kind + ", 0, 0, " + odd + ", false)", x -> x.look(kind, 0, 0, odd, false));
        tells("state(" + kind + ", " + odd + ", 0)", x -> x.state(kind, odd, 0));
        tells("state(" + kind + ", 0, " + odd + ")", x -> x.state(kind, 0, odd));
        tells("goesTo(" + kind + ", " + odd + ", 0)", x -> x.goesTo(kind, odd, 0));
        tells("goesTo(" + kind + ", 0, " + odd + ")", x -> x.goesTo(kind, 0, odd));
        tells("action(" + kind + ", " + odd + ", 0, true)", x -> x.action(kind, odd, 0, true));
        tells("action(" + kind + ", 0, " + odd + ", false)", x -> x.action(kind, 0, odd, false));
        tells("bridge(" + kind + ", " + odd + ", 0, 0)", x -> x.bridge(kind, odd, 0, 0));
        tells("bridge(" + kind + ", 0, " + odd + ", 0)", x -> x.bridge(kind, 0, odd, 0));
        tells("bridge(" + kind + ", 0, 0, " + odd + ")", x -> x.bridge(kind, 0, 0, odd));
        tells("counts(" + kind + ", " + odd + ")", x -> x.counts(kind, odd));
        tells("path(" + kind + ", " + odd + ", 0)", x -> x.path(kind, odd, 0));
        tells("path(" + kind + ", 1, " + odd + ")", x -> x.path(kind, 1, odd));
        tells("reads(" + kind + ", " + odd + ", 0, 0)", x -> x.reads(kind, odd, 0, 0));
        tells("reads(" + kind + ", 0, " + odd + ", 0)", x -> x.reads(kind, 0, odd, 0));
        tells("reads(" + kind + ", 0, 1, " + odd + ")", x -> x.reads(kind, 0, 1, odd));
        tells("reduced(" + kind + ", " + odd + ", 0, 0)", x -> x.reduced(kind, odd, 0, 0));
        tells("reduced(" + kind + ", 0, " + odd + ", 0)", x -> x.reduced(kind, 0, odd, 0));
        tells("reduced(" + kind + ", 0, 2, " + odd + ")", x -> x.reduced(kind, 0, 2, odd));
        tells("expects(" + kind + ", " + odd + ")", x -> x.expects(kind, odd));
        tells("mends(" + kind + ", " + odd + ")", x -> x.mends(kind, odd));
        tells("tree(" + kind + ", " + odd + ", 0, 0)", x -> x.tree(kind, odd, 0, 0));
        tells("tree(" + kind + ", 0, " + odd + ", 0)", x -> x.tree(kind, 0, odd, 0));
        tells("tree(" + kind + ", 0, 0, " + odd + ")", x -> x.tree(kind, 0, 0, odd));
    }

    /** These change something, unless they are refused. */
    private static void listChanging() {
        changes("feed(1)", x -> x.feed(0, 0, 0, 0, 0x61));
        changes("feed(20)", x -> x.feed(0x61616161, 0x61616161, 0x61616161, 0x61616161, 0x61616161));
        changes("text(0)", x -> x.text(0));
        changes("text(1)", x -> x.text(1));
        changes("undo()", MinimalTables::undo);
        changes("keep(1)", x -> x.keep(1));
        changes("keep(7)", x -> x.keep(7));
        changes("image()", MinimalTables::image);
        changes("back()", MinimalTables::back);
        for (int odd : new int[] {Integer.MIN_VALUE, -2, -1, 6, 7, 8, 9, 10, 16, 17, 100, 241, Integer.MAX_VALUE}) {
            changes("end(" + odd + ")", x -> x.end(odd) ? 1 : NONE);
            changes("text(" + odd + ")", x -> x.text(odd));
            changes("toggle(" + odd + ")", x -> x.toggle(odd));
            changes("prefer(" + odd + ")", x -> x.prefer(odd));
        }
        changes("toggle(0)", x -> x.toggle(0));
        changes("prefer(0)", x -> x.prefer(0));
    }

    /** All that can be told, of not too many states. */
    private static List<Call> probes(Supplier<MinimalTables> scene) {
        List<Call> old = new ArrayList<>(telling);
        telling.clear();
        MinimalTables model = scene.get();
        for (int what = 0; what <= 6; what++) {
            int w = what;
            tells("count(" + w + ")", x -> x.count(w));
        }
        tells("fault(0)", x -> x.fault(0));
        tells("fault(1)", x -> x.fault(1));
        for (int rule = 0; rule < model.count(0); rule++) {
            int r = rule;
            tells("rule(" + r + ", 2)", x -> ruleOf(x, r, 2));
            tells("rule(" + r + ", 0)", x -> ruleOf(x, r, 0));
            for (int i = 0; i < 5; i++) {
                int at = i;
                tells("letter(" + r + ", " + at + ")", x -> x.letter(r, at));
            }
        }
        for (int name = 0; name < model.count(1); name++) {
            int n = name;
            for (int what = 0; what < 5; what++) {
                int w = what;
                tells("name(" + n + ", " + w + ")", x -> x.name(n, w));
            }
            tells("trees(" + n + ", 3, 4)", x -> x.trees(n, 3, 4));
        }
        for (int what = 0; what < 4; what++) {
            int w = what;
            tells("names(" + w + ")", x -> x.names(w));
            tells("word(" + w + ", -1)", x -> x.word(w, NONE));
        }
        tells("sorts()", MinimalTables::sorts);
        tells("same(0, 2, 3)", x -> x.same(0, 2, 3));
        for (int kind = 0; kind < 3; kind++) {
            probesOf(model, kind);
        }
        List<Call> result = new ArrayList<>(telling);
        telling.clear();
        telling.addAll(old);
        return result;
    }

    private static void probesOf(MinimalTables model, int kind) {
        tells("states(" + kind + ")", x -> x.states(kind));
        for (int what = 0; what < 7; what++) {
            int w = what;
            tells("counts(" + kind + ", " + w + ")", x -> x.counts(kind, w));
        }
        for (int state = 0; state < Math.min(model.states(kind), 12); state++) {
            int s = state;
            for (int what = 0; what < 6; what++) {
                int w = what;
                tells("state(" + kind + ", " + s + ", " + w + ")", x -> x.state(kind, s, w));
            }
            for (int sign = 0; sign <= model.count(2); sign++) {
                int n = sign;
                tells("action(" + kind + ", " + s + ", " + n + ")", x -> x.action(kind, s, n, true));
            }
        }
        for (int sentence = 0; sentence < model.count(3); sentence++) {
            int t = sentence;
            tells("sign(" + t + ", -1)", x -> x.sign(t, NONE));
            tells("sign(" + t + ", 0)", x -> x.sign(t, 0));
            for (int mode = 0; mode < 3; mode++) {
                int m = mode;
                for (int what = 0; what < 4; what++) {
                    int w = what;
                    tells("reads(" + kind + ", " + t + ", " + m + ", " + w + ")", x -> x.reads(kind, t, m, w));
                }
            }
            tells("reduced(" + kind + ", " + t + ", 0, 1)", x -> x.reduced(kind, t, 0, 1));
            tells("tree(" + kind + ", " + t + ", 0, 2)", x -> x.tree(kind, t, 0, 2));
            tells("expects(" + kind + ", " + t + ")", x -> x.expects(kind, t));
            tells("mends(" + kind + ", " + t + ")", x -> x.mends(kind, t));
        }
    }

    /** What is still to be UNDONE, the IMAGE, the TAPE: they show only when they are used. */
    private static final Ask[] LAST = {
        x -> x.undo() * 100 + x.count(5), x -> x.undo() * 100 + x.count(5), x -> x.undo() * 100 + x.count(5),
        x -> x.prefer(0) * 10 + x.prefer(1), x -> x.prefer(2) * 10 + x.prefer(3), x -> x.back(), x -> x.count(5),
        x -> x.prefer(0) * 10 + x.prefer(1), x -> x.prefer(2) * 10 + x.prefer(3), x -> x.text(1), x -> x.text(0),
        x -> x.count(0), x -> x.keep(2), x -> x.count(3), x -> x.undo()};

    private static void compare(String what, Supplier<MinimalTables> scene, Ask ahead, List<Call> probes) {
        twins++;
        for (int from = 0; from < probes.size(); from += BLOCK) {
            MinimalTables one = scene.get();
            MinimalTables other = scene.get();
            ahead.of(one);
            for (Call probe : probes.subList(from, Math.min(from + BLOCK, probes.size()))) {
                due(what + ", then " + probe.name, probe.ask.of(one), probe.ask.of(other));
            }
        }
        MinimalTables one = scene.get();
        MinimalTables other = scene.get();
        ahead.of(one);
        for (int i = 0; i < LAST.length; i++) {
            due(what + ", then the last ones " + i, LAST[i].of(one), LAST[i].of(other));
        }
    }

    private static void play(String name, Supplier<MinimalTables> scene) {
        List<Call> probes = probes(scene);
        for (Call call : changing) {
            if (call.ask.of(scene.get()) == NONE) {
                refused.add(call.name.substring(0, call.name.indexOf('(')));
                compare(name + ": " + call.name, scene, call.ask, probes);
            }
        }
        // what only tells changes nothing, refused or not: many at a time, since none is to change anything
        for (int from = 0; from < telling.size(); from += 40) {
            List<Call> some = telling.subList(from, Math.min(from + 40, telling.size()));
            Ask all = x -> {
                some.forEach(call -> call.ask.of(x));
                return 0;
            };
            compare(name + ": from " + some.get(0).name + " on", scene, all, probes);
        }
    }

    private static MinimalTables rich() {
        MinimalTables x = with("E=EpT;E=T;T=TmF;T=F;F=lEr;F=i;E=Ei", "ipi", "", "ilz"); // signs i l m p r
        x.toggle(2);
        x.prefer(0);
        x.image();
        x.toggle(2);
        x.prefer(2);
        Grammars.feed(x, "i p");
        return x;
    }

    private static MinimalTables full() {
        MinimalTables x = with("A=aB;B=bC;C=cD;D=dE;E=eF;F=fA;A=gA;A=h;B=b;C=c;D=d;E=e;F=f;A=;B=;C=", "a", "b", "abc", "z");
        for (int act = 0; act < 41; act++) {
            x.toggle(act * 5 % 16);
        }
        x.image();
        Grammars.feed(x, " ".repeat(239) + ";");
        return x;
    }

    private static MinimalTables notThere() {
        MinimalTables x = with("A=AcAB;B=daA;A=bB;B=Ac;B=bAda;B=;A=aBA;B=dAaAc", "acb", "b");
        x.prefer(1);
        Grammars.feed(x, "S=;");
        return x;
    }

    private static MinimalTables noneIn() {
        MinimalTables x = with("S=aT;T=b", "ab");
        x.toggle(0);
        x.toggle(1);
        Grammars.feed(x, "S=A");
        return x;
    }

    private static MinimalTables noGrammar() {
        MinimalTables x = taped("ab");
        for (int i = 0; i < 4; i++) {
            Grammars.feed(x, "b");
            x.text(1);
        }
        Grammars.feed(x, "a=");
        return x;
    }

    /** An IMAGE of the grammar ahead is none of this one. */
    private static MinimalTables another() {
        MinimalTables x = with("S=a;S=b", "ab");
        x.toggle(0);
        x.image();
        Grammars.feed(x, "S=aS;S=;T=b");
        x.text(0);
        return x;
    }

    public static void main(String[] args) {
        listTelling();
        listChanging();
        play("new", MinimalTables::new);
        play("no GRAMMAR", RefusedTest::noGrammar);
        play("rich", RefusedTest::rich);
        play("full", RefusedTest::full);
        play("PLAIN not there", RefusedTest::notThere);
        play("nothing IN", RefusedTest::noneIn);
        play("another GRAMMAR", RefusedTest::another);
        due("each call that changes something was refused in some scene: " + refused, refused.size(), 9);
        System.out.println(twins + " twins");
        tellAll();
    }
}
