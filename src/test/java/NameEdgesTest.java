/** The edges of what is told of NAMES by the RULES that are IN. Each method holds one sentence. */
public final class NameEdgesTest extends Answers {
    // "Each is IN, or taken OUT (all are IN at first); what follows goes by those that are IN alone": nothing IN.
    private static void nothingIn() {
        MinimalTables x = with("S=aT;S=;T=b;T=S", "", "a"); // signs a b, END 4
        for (int rule = 0; rule < 4; rule++) {
            due("IN at first", x.rule(rule, 2), 1);
        }
        for (int rule = 0; rule < 4; rule++) {
            due("OUT", x.toggle(rule), 0);
        }
        due("none IN", x.count(5), 0);
        due("told still", x.count(0), 4);
        for (int name = 0; name < 2; name++) {
            due("not EMPTY", x.name(name, 0), 0);
            due("FIRST", x.name(name, 1), 0);
            due("FOLLOW: END, of START alone", x.name(name, 2), name == 0 ? 4 : 0);
            due("SHORTEST", x.name(name, 3), NONE);
            due("TREES", x.trees(name, 0, 6), 0);
        }
        due("LEFT", x.names(0), 0);
        due("USEFUL: START", x.names(1), 1);
        due("EMPTY", x.names(2), 0);
        due("with SHORTEST", x.names(3), 0);
        for (int kind = 0; kind < 3; kind++) {
            due("STATES: 0 and that behind START", x.states(kind), 2);
            due("the OUTER RULE's number is by those told", x.look(kind, 0, 4, 0, true), 4);
            due("the CLOSURE adds none", x.state(kind, 0, 1), 1);
            due("by START", x.goesTo(kind, 0, 100), 1);
            due("by a: nowhere", x.goesTo(kind, 0, 0), NONE);
            due("ACTIONS: ACCEPT alone", x.counts(kind, 5), 1);
            due("nothing is no word of it", x.reads(kind, 0, 0, 0), 0);
            due("it ERRS with no STEP", x.reads(kind, 0, 0, 1), 0);
            due("EXPECTS: none, which is not NONE", x.expects(kind, 0), 0);
            due("MENDS: by none", x.mends(kind, 1), NONE);
        }
        due("SORTS: all", x.sorts(), 31);
        due("SAME: no word", x.same(0, 2, 4), NONE);
        due("no WORD", x.word(1, NONE), NONE);
        due("none to keep", x.keep(1), NONE);
        due("an IMAGE of none IN", x.image(), 0);
        x.toggle(1);
        due("nothing comes from it now", x.name(0, 0), 1);
        due("BACK to none IN", x.back(), 0);
        due("nothing comes from it not any more", x.name(0, 0), 0);
        MinimalTables y = with("S=Sa;S=");
        y.toggle(0);
        due("EMPTY by the last one IN", y.names(2), 1);
        y.toggle(1);
        due("not EMPTY by none", y.names(2), 0);
        due("SHORTEST by none", y.name(0, 3), NONE);
        due("TREES by none", y.trees(0, 0, 1), 0);
        MinimalTables z = with("S=;S=Sa");
        z.toggle(0);
        due("LEFT, FIRST and FOLLOW by the last one IN", z.names(0) * 100 + z.name(0, 1) * 10 + z.name(0, 2), 103);
        z.toggle(1);
        due("by none", z.names(0) * 100 + z.name(0, 1) * 10 + z.name(0, 2), 2);
    }

    // "EMPTY: a NAME from which nothing at all can come (by RULES all of whose letters are EMPTY NAMES)"
    private static void empty() {
        due("no letter at all", with("S=").names(2), 1);
        due("a SIGN", with("S=a").names(2), 0);
        due("five EMPTY letters", with("S=AAAAA;A=").names(2), 3);
        due("the first is a SIGN", with("S=aAAAA;A=").names(2), 2);
        due("the last is a SIGN", with("S=AAAAa;A=").names(2), 2);
        due("the last is a NAME that is not EMPTY", with("S=AAAAB;A=;B=b").names(2), 2);
        due("itself alone", with("S=S").names(2), 0);
        due("two by one another alone", with("S=A;A=S").names(2), 0);
        due("itself, and nothing", with("S=SS;S=").names(2), 1);
        due("one behind the other, told from the top", with("A=B;B=C;C=D;D=E;E=F;F=").names(2), 63);
        due("one behind the other, told from the bottom", with("A=;B=A;C=B;D=C;E=D;F=E").names(2), 63);
        MinimalTables x = with("A=B;B=C;C=D;D=E;E=F;F=;F=f");
        due("all six", x.names(2), 63);
        due("of the first", x.name(0, 0), 1);
        x.toggle(5);
        due("the last RULE OUT", x.names(2), 0);
        due("of the first", x.name(0, 0), 0);
    }

    // "FIRST .. of its letters from the left, as long as all ahead are EMPTY: a SIGN itself, FIRST of a NAME"
    private static void first() {
        // signs a b c d e
        due("the fifth letter", with("S=ABABe;A=a;A=;B=b;B=").name(0, 1), 7);
        MinimalTables x = with("S=ABCDe;A=a;A=;B=b;B=;C=c;C=;D=d;D=");
        due("all of them", x.name(0, 1), 31);
        x.toggle(8);
        due("D is not EMPTY: not the e behind it", x.name(0, 1), 15);
        x.toggle(2);
        due("A is not EMPTY: a alone", x.name(0, 1), 1);
        x.toggle(1);
        due("A has no RULE: nothing, and not what is behind it", x.name(0, 1), 0);
        due("itself", with("S=Sa;S=b").name(0, 1), 2);
        due("itself, EMPTY", with("S=Sa;S=b;S=").name(0, 1), 3);
        due("itself alone: none", with("S=Sa").name(0, 1), 0);
        due("told from the top", with("A=B;B=C;C=D;D=E;E=F;F=f").name(0, 1), 1);
        MinimalTables y = with("S=a;B=bB;C=BC");
        due("of what cannot be come to, nor end", y.name(1, 1), 2);
        due("of what cannot be come to, nor end", y.name(2, 1), 2);
        MinimalTables z = with("S=abcde;S=fgh;S=hS");
        due("a, f, h", z.name(0, 1), 1 + 32 + 128);
    }

    // "FOLLOW .. END (bit) is in that of START, and for each RULE and each NAME in it: FIRST of what stands behind it ..
    // and, if all that is EMPTY, FOLLOW of the NAME left."
    private static void follow() {
        MinimalTables x = with("S=ABCDE;A=a;B=b;B=;C=c;C=;D=d;D=;E=e;E="); // END 32
        due("START", x.name(0, 2), 32);
        due("A: over all of them", x.name(1, 2), 2 + 4 + 8 + 16 + 32);
        due("D: E and END", x.name(4, 2), 16 + 32);
        due("E: the last letter", x.name(5, 2), 32);
        x.toggle(9);
        due("E is not EMPTY: no END behind A", x.name(1, 2), 2 + 4 + 8 + 16);
        due("behind E as before", x.name(5, 2), 32);
        x.toggle(5);
        due("C is not EMPTY: no d, no e behind A", x.name(1, 2), 2 + 4);
        due("START within", with("S=aSb;S=c").name(0, 2), 2 + 8);
        due("the same NAME twice", with("S=AA;A=a").name(1, 2), 1 + 2);
        due("of a NAME in no RULE", with("S=a;T=b").name(1, 2), 0);
        MinimalTables y = with("S=a;T=Ub;U=U");
        due("of one that cannot be come to", y.name(2, 2), 2);
        due("by a RULE OUT", y.toggle(1), 0);
        due("none then", y.name(2, 2), 0);
        MinimalTables z = with("F=f;E=F;D=E;C=D;B=C");
        due("END goes to F alone", z.name(0, 2), 2);
        due("and not to a NAME above", z.name(1, 2), 0);
        MinimalTables w = with("A=B;B=C;C=D;D=E;E=F;F=f;F=Ff");
        due("down to the sixth", w.name(5, 2), 1 + 2);
        MinimalTables v = with("A=;B=A;C=BaC"); // sign a, END
        due("what comes later to the NAME above", v.name(0, 2), 1 + 2);
        MinimalTables eight = with("S=aS;S=bS;S=cS;S=dS;S=eS;S=fS;S=gS;S=hS;S=;S=SS");
        due("eight SIGNS and END", eight.name(0, 2), 511);
        due("eight SIGNS", eight.name(0, 1), 255);
    }

    // "SHORTEST of a NAME: the fewest SIGNS of a word from it (none can be: NONE)"
    private static void shortest() {
        due("nothing", with("S=").name(0, 3), 0);
        due("one", with("S=a;S=bb").name(0, 3), 1);
        due("the later RULE", with("S=aaa;S=bb").name(0, 3), 2);
        due("none can be", with("S=aS").name(0, 3), NONE);
        due("none can be by itself alone", with("S=S").name(0, 3), NONE);
        due("one letter of five cannot", with("S=aaaaA;A=A").name(0, 3), NONE);
        due("by the other RULE", with("S=A;S=aaaaa;A=A").name(0, 3), 5);
        MinimalTables x = with("A=BBBBB;B=CCCCC;C=DDDDD;D=EEEEE;E=FFFFF;F=fffff");
        due("5 to the sixth", x.name(0, 3), 15625);
        due("all have one", x.names(3), 63);
        x.toggle(5);
        due("none has", x.names(3), 0);
        due("none can be", x.name(0, 3), NONE);
        MinimalTables y = with("S=AA;A=B;B=ab;B=");
        due("nothing over two", y.name(0, 3), 0);
        y.toggle(3);
        due("2 and 2", y.name(0, 3), 4);
        MinimalTables z = with("S=SS;S=aaa");
        due("itself twice is longer", z.name(0, 3), 3);
    }

    /** Trees of S=SS;S=a, by hand: one leaf, or two trees one lower. */
    private static long pairs(int n, int h) {
        if (h == 0) {
            return 0;
        }
        long sum = n == 1 ? 1 : 0;
        for (int k = 1; k < n; k++) {
            sum += pairs(k, h - 1) * pairs(n - k, h - 1);
        }
        return sum;
    }

    // "TREES of a NAME for n (0 .. 8) and h (0 .. 6)"; "with no RULE above one another (h 0) there are none"
    private static void treesInBounds() {
        MinimalTables x = with("S=SS;S=a");
        for (int n = 0; n <= 8; n++) {
            for (int h = 0; h <= 6; h++) {
                due("TREES for " + n + " and " + h, x.trees(0, n, h), pairs(n, h));
            }
        }
        int[] wrongN = {-1, 9, Integer.MIN_VALUE, Integer.MAX_VALUE};
        int[] wrongH = {-1, 7, Integer.MIN_VALUE, Integer.MAX_VALUE};
        int[] wrongNames = {-1, 1, 6, 100, Integer.MIN_VALUE, Integer.MAX_VALUE};
        for (int wrong : wrongN) {
            due("n " + wrong, x.trees(0, wrong, 0), NONE);
            due("n " + wrong, x.trees(0, wrong, 6), NONE);
        }
        for (int wrong : wrongH) {
            due("h " + wrong, x.trees(0, 0, wrong), NONE);
            due("h " + wrong, x.trees(0, 8, wrong), NONE);
        }
        for (int wrong : wrongNames) {
            due("NAME " + wrong, x.trees(wrong, 1, 1), NONE);
        }
        MinimalTables y = with("S=");
        due("h 0: none, even for nothing", y.trees(0, 0, 0), 0);
        due("h 1: one", y.trees(0, 0, 1), 1);
        due("no SIGN in it", y.trees(0, 1, 6), 0);
        MinimalTables z = with("A=B;B=C;C=D;D=E;E=F;F=f");
        due("six RULES above one another", z.trees(0, 1, 6), 1);
        due("one less", z.trees(0, 1, 5), 0);
        due("the sixth NAME", z.trees(5, 1, 1), 1);
        MinimalTables w = with("S=aaaaT;T=aaaa;T=aaaaa;T=aaa");
        due("eight SIGNS", w.trees(0, 8, 2), 1);
        due("seven", w.trees(0, 7, 2), 1);
        due("six", w.trees(0, 6, 2), 0);
        MinimalTables v = with("S=TU;T=aaaaV;V=aaaa;U=");
        due("eight SIGNS, and nothing behind", v.trees(0, 8, 3), 1);
        due("eight SIGNS of V and none of W", with("S=WV;V=aaaaU;U=aaaa;W=").trees(0, 8, 3), 1);
        due("two RULES alike count twice", with("S=a;S=a").trees(0, 1, 1), 2);
    }

    // "(1,000,000,000 at most: each sum and product is held to that as it is made)"
    private static void treesHeld() {
        // A 3, B 3^5 + 3^4 = 324, C 324 * 3 + 27 = 999, S 999^3 + 3 * 999^2 + 3 * 999 = 1000^3 - 1
        String grammar = "S=CCC;S=ACC;S=AC;A=;A=;A=;B=AAAAA;B=AAAA;C=BA;C=AAA";
        due("one less", with(grammar).trees(0, 0, 4), 999999999);
        due("just that", with(grammar + ";S=").trees(0, 0, 4), 1000000000);
        due("one more is held", with(grammar + ";S=;S=").trees(0, 0, 4), 1000000000);
        due("B has no tree yet: 28^3 - 1", with(grammar).trees(0, 0, 3), 21951);
        due("no more by h 6", with(grammar).trees(0, 0, 6), 999999999);
        due("C", with(grammar).trees(3, 0, 3), 999);
        // held ones times one another five times over, and times none
        String great = "S=;S=;S=;S=;S=;S=;S=;S=;S=SSSSS;S=SSSSS;S=SSSSS;T=SSSSS;T=SSSSa;U=SSSSV;V=a";
        MinimalTables x = with(great);
        due("8 RULES", x.trees(0, 0, 1), 8);
        due("8 and 3 times 8 to the fifth", x.trees(0, 0, 2), 98312);
        due("held", x.trees(0, 0, 3), 1000000000);
        due("held", x.trees(0, 0, 6), 1000000000);
        due("a product of held ones", x.trees(1, 0, 6), 1000000000);
        due("and of one SIGN", x.trees(1, 1, 6), 1000000000);
        due("times none", x.trees(2, 0, 6), 0);
        due("times one", x.trees(2, 1, 6), 1000000000);
        due("of two SIGNS none", x.trees(2, 2, 6), 0);
    }

    // "LEFT: NAMES (bits) that can come to begin with themselves (by one RULE or more, over EMPTY letters ahead)"
    private static void left() {
        due("by one RULE", with("S=Sa").names(0), 1);
        due("itself behind a SIGN", with("S=aS").names(0), 0);
        due("over four EMPTY ones", with("S=AAAAS;A=").names(0), 1);
        due("over three EMPTY ones and one that is not", with("S=AAABS;A=;B=b").names(0), 0);
        due("over itself, EMPTY", with("S=aS;S=SS;S=").names(0), 1);
        due("by two RULES", with("S=Aa;A=Sb").names(0), 3);
        due("by six RULES", with("A=B;B=C;C=D;D=E;E=F;F=A").names(0), 63);
        due("the last is cut", with("A=B;B=C;C=D;D=E;E=F;F=fA").names(0), 0);
        due("into a circle, but not in it", with("S=A;A=B;B=A").names(0), 6);
        due("the sixth alone", with("A=;B=;C=;D=;E=;F=F").names(0), 32);
        MinimalTables x = with("S=AS;A=a;A=");
        due("over an EMPTY one", x.names(0), 1);
        x.toggle(2);
        due("that is not any more", x.names(0), 0);
        x.undo();
        x.toggle(0);
        due("by a RULE OUT", x.names(0), 0);
    }

    // "USEFUL: NAMES (bits) that can be come to from START (START, too)."
    private static void useful() {
        due("START alone", with("S=a").names(1), 1);
        due("START by nothing", with("S=a;T=S").names(1), 1);
        due("the fifth letter", with("S=aaaaT;T=").names(1), 3);
        due("down to the sixth", with("A=B;B=C;C=D;D=E;E=F;F=f").names(1), 63);
        due("behind one that cannot end", with("S=AB;A=A;B=C;C=").names(1), 15);
        MinimalTables x = with("A=B;B=C;C=D;D=E;E=F;F=f");
        x.toggle(2);
        due("cut", x.names(1), 7);
        x.toggle(0);
        due("cut at START", x.names(1), 1);
    }

    // "name .. NONE: no such ones."; "names .. NONE: .. no such what."
    private static void noSuchOnes() {
        MinimalTables x = with("S=a;T=");
        int[] odd = {-1, -2, 100, 101, Integer.MIN_VALUE, Integer.MAX_VALUE};
        for (int wrong : odd) {
            for (int what = 0; what <= 4; what++) {
                due("name(" + wrong + ", " + what + ")", x.name(wrong, what), NONE);
            }
            due("name(0, " + wrong + ")", x.name(0, wrong), NONE);
            due("names(" + wrong + ")", x.names(wrong), NONE);
        }
        due("the last NAME", x.name(1, 4), 'T');
        due("the one behind", x.name(2, 4), NONE);
        due("the last what", x.name(0, 4), 'S');
        due("the one behind", x.name(0, 5), NONE);
        due("the last what of all", x.names(3), 3);
        due("the one behind", x.names(4), NONE);
    }

    // "rule .. NoSuchElementException: no such ones."; "letter .. NONE: no such ones."
    private static void noSuchRules() {
        MinimalTables x = with("S=aT;T=S;T=b;T=");
        int[] odd = {-1, 4, 5, 16, Integer.MIN_VALUE, Integer.MAX_VALUE};
        for (int wrong : odd) {
            for (int what = 0; what <= 3; what++) {
                due("rule(" + wrong + ", " + what + ") throws", ruleThrows(x, wrong, what), true);
                due("rule(" + what + ", " + wrong + ") throws", ruleThrows(x, what, wrong), true);
            }
            due("letter(" + wrong + ", 0)", x.letter(wrong, 0), NONE);
            due("letter(0, " + wrong + ")", x.letter(0, wrong), NONE);
        }
        for (int rule = 0; rule < 4; rule++) {
            for (int what = 0; what <= 3; what++) {
                due("rule(" + rule + ", " + what + ") throws", ruleThrows(x, rule, what), false);
            }
        }
        due("UNIT: one NAME", x.rule(1, 3), 1);
        due("two letters are no UNIT", x.rule(0, 3), 0);
        due("a SIGN is no UNIT", x.rule(2, 3), 0);
        due("no letter is no UNIT", x.rule(3, 3), 0);
        due("the last letter", x.letter(0, 1), 101);
        due("the one behind", x.letter(0, 2), NONE);
        due("of no letters", x.letter(3, 0), NONE);
    }

    public static void main(String[] args) {
        nothingIn();
        empty();
        first();
        follow();
        shortest();
        treesInBounds();
        treesHeld();
        left();
        useful();
        noSuchOnes();
        noSuchRules();
        tellAll();
    }
}
