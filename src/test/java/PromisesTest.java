/**
 * For each promise: ordinary inputs, the edges that the document names, and wrong inputs. The answers were found by hand,
 * but for how many STATES WEAK has and some words of SAME: these are the Oracle's.
 */
public final class PromisesTest extends Answers {
    private static final String SPLIT = "S=aAd;S=bBd;S=aBe;S=bAe;A=c;B=c";
    private static final String SUMS = "E=EpT;E=T;T=TmF;T=F;F=lEr;F=i"; // signs i l m p r
    private static final String DANGLING = "S=iSeS;S=iS;S=a"; // signs a e i
    private static final String CIRCLE = "S=Aa;A=B;B=A;B=x"; // signs a x
    private static final String HEAP = "S=ESa;E=;S="; // the empty E is told ahead of the empty S
    private static final String PLAIN_200 = "A=ad;B=cdBbA;A=AbBBa;B=dBdBA;A=BAcAB;B=;B=";
    private static final String PLAIN_201 = "A=AcAB;B=daA;A=bB;B=Ac;B=bAda;B=;A=aBA;B=dAaAc";
    private static final String NONE_THERE = "A=bbEC;B=AaDab;C=abbbF;D=abBbC;E=bCBAb;F=aBCD;B=babF;C=bbAA;D=bbaEE;"
        + "F=aFbb;B=aDbb;D=CBEa;C=CabDb;B=abbDa;F=bbabb;A=abEb";

    private static void due(int promise, String what, long got, long want) {
        due("promise " + promise + ": " + what, got, want);
    }

    private static void due(int promise, String what, boolean got, boolean want) {
        due("promise " + promise + ": " + what, got, want);
    }

    private static void newObject() {
        MinimalTables x = new MinimalTables();
        for (int what = 0; what <= 6; what++) {
            due(1, "count(" + what + ")", x.count(what), 0);
        }
        due(1, "states(0)", x.states(0), NONE);
        due(1, "names(1)", x.names(1), NONE);
        due(1, "name(0, 4)", x.name(0, 4), NONE);
        due(1, "sorts()", x.sorts(), NONE);
        due(1, "image()", x.image(), NONE);
        due(1, "undo()", x.undo(), NONE);
        due(1, "prefer(0)", x.prefer(0), NONE);
        due(1, "action(0, 0, 0, true)", x.action(0, 0, 0, true), HIDDEN);
    }

    private static void feeding() {
        MinimalTables x = new MinimalTables();
        due(2, "bytes of 0 left out", x.feed(0x00530000, 0x3D, 0, 0, 0x61006200), 4);
        due(2, "the highest first: S=ab", x.fault(0), NONE);
        MinimalTables y = new MinimalTables();
        for (int i = 1; i <= 11; i++) {
            y.feed(-1, -1, -1, -1, -1);
        }
        y.feed(-1, -1, -1, -1, 0);
        due(2, "five more, of all five numbers, are too many", y.feed(1, 1, 1, 1, 1), NONE);
        due(2, "still 236", y.count(4), 236);
        due(2, "four more", y.feed(1, 1, 0, 1, 1), 240);
        x.end(0);
        for (int i = 1; i <= 11; i++) {
            due(2, "twenty more", x.feed(-1, -1, -1, -1, -1), 20 * i);
        }
        due(2, "19 more", x.feed(-1, -1, -1, -1, 0x7F7F7F00), 239);
        due(2, "two more are too many", x.feed(0x6161, 0, 0, 0, 0), NONE);
        due(2, "refused changes nothing", x.count(4), 239);
        due(2, "one more", x.feed(0, 0, 0, 0, 0x61), 240);
        due(2, "none more", x.feed(0, 0, 0, 0, 0), 240);
        due(2, "one too many", x.feed(1, 0, 0, 0, 0), NONE);
        due(2, "refused changes nothing", x.count(4), 240);
    }

    private static void ending() {
        MinimalTables x = taped("abc");
        due(3, "end(-1)", x.end(-1), false);
        due(3, "end(4)", x.end(4), false);
        due(3, "end(least)", x.end(Integer.MIN_VALUE), false);
        due(3, "still 3", x.count(4), 3);
        due(3, "end(3)", x.end(3), true);
        due(3, "end(2)", x.end(2), true);
        due(3, "2 then", x.count(4), 2);
        due(3, "end(3) then", x.end(3), false);
        due(3, "the first are left", x.text(1), 0);
        Grammars.feed(x, "S=ab");
        x.text(0);
        due(3, "a and b", x.sign(0, NONE) * 100 + x.sign(0, 0) * 10 + x.sign(0, 1), 201);
        due(3, "end(0)", x.end(0), true);
    }

    private static void grammarFault(String text, int want) {
        due(4, "fault(0) of '" + text + "'", taped(text).fault(0), want);
    }

    private static void sentenceFault(String text, int want) {
        due(4, "fault(1) of '" + text + "'", taped(text).fault(1), want);
    }

    private static void faults() {
        String fifteen = "S=;S=;S=;S=;S=;S=;S=;S=;S=;S=;S=;S=;S=;S=;S=;";
        grammarFault("", 0);
        grammarFault("   ", 3);
        grammarFault("S", 1);
        grammarFault("S ", 2);
        grammarFault("S=", NONE);
        grammarFault("  S  =  a  B ; B = ", NONE);
        grammarFault("S=;", 3);
        grammarFault("S=; ", 4);
        grammarFault("=S", 0);
        grammarFault("s=", 0);
        grammarFault("SS=", 1);
        grammarFault("Sa=", 1);
        grammarFault("S==", 2);
        grammarFault("S;", 1);
        grammarFault("S=;;", 3);
        grammarFault("S=;a", 3);
        grammarFault("S=a=", 3);
        grammarFault("S=a,", 3);
        grammarFault("S=A", 3);
        grammarFault("S=A ", 4);
        grammarFault("S=AaAaA;A=", NONE);
        grammarFault("S=aaaaa", NONE);
        grammarFault("S=aaaa aa", 8);
        grammarFault("S=aaaaaA", 7);
        grammarFault("S=abcde;S=fgh", NONE);
        grammarFault("S=abcde;S=fghi", 13);
        grammarFault("S=abcde;S=fghaa", NONE);
        grammarFault("S=bcdef;S=ghi", NONE);
        grammarFault("Z=azA;A=Z", NONE);
        grammarFault("Y=;X=;W=;V=;U=;T=;Z=", 18);
        grammarFault("A=BCDEF;B=;C=;D=;E=;F=", NONE);
        grammarFault("A=BCDEF;G=", 8);
        grammarFault("A=BCDEF;A=G", 10);
        grammarFault(fifteen + "S=", NONE);
        grammarFault(fifteen + "S= ", NONE);
        grammarFault(fifteen + "S=;", 47);
        grammarFault(fifteen + "S=A", 48);
        grammarFault("S=\u00e9", 2);
        grammarFault("S=`", 2);
        grammarFault("S={", 2);
        grammarFault("S=[", 2);
        grammarFault("S=@", 2);
        sentenceFault("", NONE);
        sentenceFault(" a z ", NONE);
        sentenceFault("aA", 1);
        sentenceFault("a;", 1);
        sentenceFault("aaaaaaaaaaaaaaaaaaaaaaaa", NONE);
        sentenceFault("aaaaaaaaaaaaaaaaaaaaaaaa ", NONE);
        sentenceFault("aaaaaaaaaaaaaaaaaaaaaaa aa", 25);
        MinimalTables x = taped("S=");
        due(4, "fault(2)", x.fault(2), -2);
        due(4, "fault(-1)", x.fault(-1), -2);
        due(4, "the tape stays", x.count(4), 2);
    }

    private static void texts() {
        MinimalTables x = taped("S=a;S=b;");
        due(5, "a FAULT", x.text(0), NONE);
        due(5, "refused changes nothing", x.count(4), 8);
        due(5, "no such sort", x.text(2), NONE);
        due(5, "not a SENTENCE", x.text(1), NONE);
        x.end(7);
        due(5, "two RULES", x.text(0), 2);
        due(5, "the TAPE is empty", x.count(4), 0);
        for (int i = 0; i < 4; i++) {
            due(5, "a SENTENCE of nothing", x.text(1), i);
        }
        Grammars.feed(x, "a");
        due(5, "a fifth", x.text(1), NONE);
        due(5, "refused changes nothing", x.count(4), 1);
        x.end(0);
        x.toggle(0);
        x.prefer(0);
        x.image();
        Grammars.feed(x, "S=x;S=y");
        due(5, "another GRAMMAR", x.text(0), 2);
        due(5, "all IN", x.count(5), 2);
        due(5, "no ACT", x.count(6), 0);
        due(5, "nothing to undo", x.undo(), NONE);
        due(5, "no IMAGE", x.back(), NONE);
        due(5, "no SIGN PREFERS: it does from now on", x.prefer(0), 1);
        due(5, "SENTENCES stay", x.count(3), 4);
    }

    private static void rules() {
        MinimalTables x = with("T=aUb;U=T;U=;U=x");
        due(6, "left of 0", x.rule(0, 0), 0);
        due(6, "left of 1", x.rule(1, 0), 1);
        due(6, "letters of 0", x.rule(0, 1), 3);
        due(6, "letters of 2", x.rule(2, 1), 0);
        due(6, "IN", x.rule(1, 2), 1);
        due(6, "UNIT", x.rule(1, 3), 1);
        due(6, "a SIGN alone is no UNIT", x.rule(3, 3), 0);
        due(6, "nothing is no UNIT", x.rule(2, 3), 0);
        x.toggle(1);
        due(6, "OUT", x.rule(1, 2), 0);
        due(6, "UNIT still", x.rule(1, 3), 1);
        due(6, "rule(4, 0) throws", ruleThrows(x, 4, 0), true);
        due(6, "rule(-1, 0) throws", ruleThrows(x, -1, 0), true);
        due(6, "rule(0, 4) throws", ruleThrows(x, 0, 4), true);
        due(6, "rule(0, -1) throws", ruleThrows(x, 0, -1), true);
        due(6, "throws without a GRAMMAR", ruleThrows(new MinimalTables(), 0, 0), true);
    }

    private static void letters() {
        MinimalTables x = with("T=zUb;U=TTTTm;A=");
        due(7, "z", x.letter(0, 0), 2);
        due(7, "U", x.letter(0, 1), 101);
        due(7, "b", x.letter(0, 2), 0);
        due(7, "behind", x.letter(0, 3), NONE);
        due(7, "the fifth", x.letter(1, 4), 1);
        due(7, "T", x.letter(1, 0), 100);
        due(7, "of none", x.letter(2, 0), NONE);
        due(7, "the OUTER RULE is not told", x.letter(3, 0), NONE);
        due(7, "letter(-1, 0)", x.letter(-1, 0), NONE);
        due(7, "letter(0, -1)", x.letter(0, -1), NONE);
    }

    private static void signs() {
        MinimalTables x = new MinimalTables();
        x.feed(0x63612062, 0x7A000000, 0, 0, 0);
        x.text(1);
        due(8, "no GRAMMAR", x.sign(0, 0), NONE);
        due(8, "no GRAMMAR, how many", x.sign(0, NONE), NONE);
        Grammars.feed(x, "S=cb");
        x.text(0);
        due(8, "how many", x.sign(0, NONE), 4);
        due(8, "c", x.sign(0, 0), 1);
        due(8, "a is strange", x.sign(0, 1), 99);
        due(8, "b", x.sign(0, 2), 0);
        due(8, "z is strange", x.sign(0, 3), 99);
        due(8, "behind", x.sign(0, 4), NONE);
        due(8, "i of -2", x.sign(0, -2), NONE);
        due(8, "no such SENTENCE", x.sign(1, 0), NONE);
        due(8, "no such SENTENCE", x.sign(-1, NONE), NONE);
        Grammars.feed(x, "S=abc");
        x.text(0);
        due(8, "numbered anew", x.sign(0, 1), 0);
        due(8, "numbered anew", x.sign(0, 0), 2);
    }

    private static void namesOneByOne() {
        // signs a b c: bits 1 2 4, END 8
        MinimalTables x = with("S=ABc;A=a;A=;B=bB;B=;C=CS;D=aC");
        due(9, "S is not EMPTY", x.name(0, 0), 0);
        due(9, "A is EMPTY", x.name(1, 0), 1);
        due(9, "FIRST of S over EMPTY ones", x.name(0, 1), 7);
        due(9, "FIRST of B", x.name(2, 1), 2);
        due(9, "FIRST of C: none", x.name(3, 1), 0);
        due(9, "FIRST of D counts though it cannot end", x.name(4, 1), 1);
        due(9, "FOLLOW of S: END, and behind C in CS what follows C: what follows D and FIRST of S",
            x.name(0, 2), 15);
        due(9, "FOLLOW of A: FIRST of Bc", x.name(1, 2), 6);
        due(9, "FOLLOW of B", x.name(2, 2), 4);
        due(9, "FOLLOW of C: FIRST of S", x.name(3, 2), 7);
        due(9, "FOLLOW of D: nothing", x.name(4, 2), 0);
        due(9, "SHORTEST of S", x.name(0, 3), 1);
        due(9, "SHORTEST of A", x.name(1, 3), 0);
        due(9, "SHORTEST of C: none", x.name(3, 3), NONE);
        due(9, "letter of D", x.name(4, 4), 'D');
        due(9, "no such NAME", x.name(5, 0), NONE);
        due(9, "no such NAME", x.name(-1, 0), NONE);
        due(9, "no such what", x.name(0, 5), NONE);
        due(9, "no such what", x.name(0, -1), NONE);
        x.toggle(2);
        due(9, "A is not EMPTY any more", x.name(1, 0), 0);
        due(9, "FIRST of S then", x.name(0, 1), 1);
        due(9, "SHORTEST of S then", x.name(0, 3), 2);
        MinimalTables y = with("S=AAAAA;A=BBBBB;B=CCCCC;C=DDDDD;D=EEEEE;E=aaaaa");
        due(9, "5 to the 6th", y.name(0, 3), 15625);
        // each RULE is of use to FOLLOW only when the one behind it was: signs a c, END 4
        MinimalTables z = with("S=aA;C=c;D=C;B=D;A=B");
        due(9, "FOLLOW of C, by four RULES", z.name(1, 2), 4);
        due(9, "FIRST of A, by three", z.name(4, 1), 2);
        due(9, "SHORTEST of S, by four", z.name(0, 3), 2);
    }

    private static void treesCounted() {
        MinimalTables x = with("S=SS;S=a");
        due(10, "h 0", x.trees(0, 1, 0), 0);
        due(10, "one sign", x.trees(0, 1, 1), 1);
        due(10, "three signs, h 2", x.trees(0, 3, 2), 0);
        due(10, "three signs, h 3", x.trees(0, 3, 3), 2);
        due(10, "four signs, h 3", x.trees(0, 4, 3), 1);
        due(10, "four signs, h 4", x.trees(0, 4, 4), 5);
        due(10, "no signs", x.trees(0, 0, 6), 0);
        due(10, "n 9", x.trees(0, 9, 6), NONE);
        due(10, "n -1", x.trees(0, -1, 6), NONE);
        due(10, "h 7", x.trees(0, 1, 7), NONE);
        due(10, "h -1", x.trees(0, 1, -1), NONE);
        due(10, "no such NAME", x.trees(1, 1, 1), NONE);
        due(10, "no such NAME", x.trees(-1, 1, 1), NONE);
        x.toggle(0);
        due(10, "SS taken OUT", x.trees(0, 3, 6), 0);
        MinimalTables y = with("S=SSSSS;S=SSSSS;S=SSSSS;S=SSSSS;S=SSSSS;S=SSSSS;S=SSSSS;S=SSSSS;S=;S=;S=;S=;S=;S=;S=;S=");
        due(10, "eight empty ones", y.trees(0, 0, 1), 8);
        due(10, "8 times 8 to the 5th, and 8", y.trees(0, 0, 2), 262152);
        due(10, "held", y.trees(0, 0, 3), 1000000000);
        due(10, "held, the highest", y.trees(0, 0, 6), 1000000000);
        due(10, "no sign at all", y.trees(0, 8, 6), 0);
        MinimalTables z = with("S=aaaaT;T=aaaa;T=aaaaa");
        due(10, "eight signs", z.trees(0, 8, 2), 1);
    }

    private static void namesInBits() {
        MinimalTables x = with("S=AS;A=;A=a;B=Cb;C=Bc;C=S");
        due(11, "LEFT: S over A, B and C by one another", x.names(0), 1 + 4 + 8);
        due(11, "USEFUL", x.names(1), 3);
        due(11, "EMPTY", x.names(2), 2);
        due(11, "with SHORTEST", x.names(3), 2);
        due(11, "no such what", x.names(4), NONE);
        due(11, "no such what", x.names(-1), NONE);
        x.toggle(1);
        due(11, "LEFT without the empty A", x.names(0), 4 + 8);
        x.toggle(0);
        due(11, "USEFUL: START too", x.names(1), 1);
        MinimalTables y = with("S=a;A=A;A=SB;B=AA");
        due(11, "LEFT: A by itself; B begins with A, but A never with B", y.names(0), 2);
        due(11, "with SHORTEST", y.names(3), 1);
    }

    private static void toggling() {
        MinimalTables x = with("S=a;S=b;S=c");
        due(12, "OUT", x.toggle(1), 0);
        due(12, "two IN", x.count(5), 2);
        due(12, "FIRST", x.name(0, 1), 5);
        due(12, "a STATE less", x.states(0), 4);
        due(12, "IN", x.toggle(1), 1);
        due(12, "a STATE more", x.states(0), 5);
        due(12, "no such one", x.toggle(3), NONE);
        due(12, "no such one", x.toggle(-1), NONE);
        due(12, "two ACTS", x.count(6), 2);
        due(12, "no GRAMMAR", new MinimalTables().toggle(0), NONE);
        for (int rule = 0; rule < 3; rule++) {
            x.toggle(rule);
        }
        due(12, "no RULE IN", x.count(5), 0);
        due(12, "STATES 0 and behind START", x.states(0), 2);
        due(12, "no WORD", x.word(1, NONE), NONE);
    }

    private static void preferring() {
        MinimalTables x = with(DANGLING, "iiaea");
        int state = stateIn(x, 2, 2, 2, 100);
        due(13, "SHIFT first", x.action(2, state, 1, false), 1000 + x.goesTo(2, state, 1));
        due(13, "it does", x.prefer(1), 1);
        due(13, "REDUCE first", x.action(2, state, 1, false), 1);
        due(13, "the CONFLICT stays", x.state(2, state, 4), 2);
        due(13, "not any more", x.prefer(1), 0);
        due(13, "SHIFT first again", x.action(2, state, 1, false), 1000 + x.goesTo(2, state, 1));
        due(13, "END", x.prefer(3), 1);
        due(13, "no such one", x.prefer(4), NONE);
        due(13, "no such one", x.prefer(-1), NONE);
        due(13, "three ACTS", x.count(6), 3);
        MinimalTables y = with("S=a");
        due(13, "one RULE: a", y.prefer(0), 1);
        due(13, "one RULE: END", y.prefer(1), 1);
    }

    private static void undoing() {
        MinimalTables x = with("S=a;S=b");
        due(14, "none", x.undo(), NONE);
        x.toggle(0);
        x.prefer(1);
        due(14, "prefer undone", x.undo(), 1);
        due(14, "prefers no more: it does now", x.prefer(1), 1);
        x.undo();
        due(14, "toggle undone", x.undo(), 0);
        due(14, "IN again", x.rule(0, 2), 1);
        due(14, "none", x.undo(), NONE);
        for (int i = 0; i < 42; i++) {
            x.toggle(i < 2 ? 1 : 0);
        }
        x.toggle(1);
        due(14, "forty", x.count(6), 40);
        for (int left = 39; left >= 0; left--) {
            due(14, "undone", x.undo(), left);
        }
        due(14, "none", x.undo(), NONE);
        due(14, "what was done ahead of the forty stays", x.rule(0, 2), 0);
        due(14, "what was undone", x.rule(1, 2), 1);
        // sixty ACTS, all unlike those near them: the latest forty undone leave the first twenty
        MinimalTables y = with("S=a;S=b;S=c;S=d;S=e;S=f;S=g");
        for (int i = 0; i < 60; i++) {
            int rule = i * i % 7;
            if (i % 3 == 2) {
                y.prefer(rule);
            } else {
                y.toggle(rule);
            }
        }
        while (y.undo() > 0) {
            due(14, "less than forty", y.count(6) < 40, true);
        }
        int[] in = {1, 1, 1, 1, 1, 1, 1};
        int[] prefers = new int[7];
        for (int i = 0; i < 20; i++) {
            if (i % 3 == 2) {
                prefers[i * i % 7] ^= 1;
            } else {
                in[i * i % 7] ^= 1;
            }
        }
        for (int i = 0; i < 7; i++) {
            due(14, "RULE " + i, y.rule(i, 2), in[i]);
            due(14, "SIGN " + i + " the other way round", y.prefer(i), 1 - prefers[i]);
        }
    }

    private static void statesCounted() {
        MinimalTables x = with(SPLIT);
        due(15, "PLAIN", x.states(0), 14);
        due(15, "WEAK", x.states(1), 14);
        due(15, "JOINED", x.states(2), 13);
        due(15, "no such", x.states(3), NONE);
        due(15, "no such", x.states(-1), NONE);
        due(15, "no GRAMMAR", new MinimalTables().states(0), NONE);
        due(15, "just 200", with(PLAIN_200).states(0), 200);
        due(15, "merged", with(PLAIN_200).states(1), 23);
        MinimalTables y = with(PLAIN_201);
        due(15, "201: not there", y.states(0), NONE);
        due(15, "the others are", y.states(2), 23);
        due(15, "counts of what is not there", y.counts(0, 0), NONE);
        due(15, "actions of what is not there", y.action(0, 0, 0, false), HIDDEN);
        due(15, "same with what is not there", y.same(0, 2, 1), NONE);
        MinimalTables z = with(NONE_THERE, "a");
        for (int kind = 0; kind < 3; kind++) {
            due(15, "not there", z.states(kind), NONE);
            due(15, "not read", z.reads(kind, 0, 0, 0), NONE);
        }
        for (int rule = 1; rule < 16; rule++) {
            z.toggle(rule);
        }
        due(15, "there, with one RULE", z.states(1) > 0, true);
        MinimalTables w = with("A=aCa;B=aaA;C=aB;D=;A=C");
        due(15, "WEAK: first that to which it went up to now", w.states(1), 17);
        MinimalTables v = with("A=BCA;B=a;C=CB;B=BC;C=;C=d;A=cdCAd");
        due(15, "WEAK: LOOKS that cross one way are enough", v.states(1), 14);
        MinimalTables u = with("A=BAb;B=AaB;B=c;A=b");
        due(15, "WEAK: LOOKS with something in common in the one", u.states(1), 10);
    }

    private static void looks() {
        MinimalTables x = with(SPLIT); // signs a b c d e: bits 1 2 4 8 16, END 32
        int plain = stateIn(x, 0, 0, 2);
        int joined = stateIn(x, 2, 0, 2);
        due(16, "the first KERNEL", x.look(0, 0, 6, 0, false), 32);
        due(16, "the OUTER RULE is in the CLOSURE", x.look(0, 0, 6, 0, true), 32);
        due(16, "A=c behind a", x.look(0, plain, 4, 1, false), 8);
        due(16, "B=c behind a", x.look(0, plain, 5, 1, false), 16);
        due(16, "joined", x.look(2, joined, 4, 1, false), 24);
        due(16, "the KERNEL in the CLOSURE", x.look(2, joined, 5, 1, true), 24);
        due(16, "not in the KERNEL", x.look(0, 0, 0, 0, false), 0);
        due(16, "in the CLOSURE", x.look(0, 0, 0, 0, true), 32);
        due(16, "not in it", x.look(0, 0, 4, 0, true), 0);
        due(16, "the DOT behind all", x.look(0, 0, 0, 3, true), 0);
        due(16, "too far", x.look(0, 0, 0, 4, true), NONE);
        due(16, "DOT -1", x.look(0, 0, 0, -1, true), NONE);
        due(16, "behind the OUTER RULE", x.look(0, 0, 7, 0, true), NONE);
        due(16, "the OUTER RULE's DOT", x.look(0, 0, 6, 2, true), NONE);
        due(16, "no such STATE", x.look(0, 14, 0, 0, true), NONE);
        due(16, "no such STATE", x.look(0, -1, 0, 0, true), NONE);
        due(16, "no such AUTOMATON", x.look(3, 0, 0, 0, true), NONE);
        x.toggle(0);
        due(16, "OUT", x.look(0, 0, 0, 0, true), 0);
        MinimalTables y = with("S=AB;A=a;A=;B=Bb"); // nothing begins with B
        due(16, "A has nothing behind it: not there", y.look(0, 0, 1, 0, true), 0);
        due(16, "S is there", y.look(0, 0, 0, 0, true), y.name(0, 2));
    }

    private static void statesTold() {
        MinimalTables x = with(SPLIT);
        int joined = stateIn(x, 2, 0, 2);
        due(17, "KERNEL of 0", x.state(0, 0, 0), 1);
        due(17, "CLOSURE of 0", x.state(0, 0, 1), 5);
        due(17, "letters of 0: a b S", x.state(0, 0, 2), 3);
        due(17, "DEFAULT of 0: none", x.state(0, 0, 3), NONE);
        due(17, "CONFLICTS of 0", x.state(0, 0, 4), 0);
        due(17, "PATH of 0", x.state(0, 0, 5), 0);
        due(17, "KERNEL behind a", x.state(0, stateIn(x, 0, 0), 0), 2);
        due(17, "CLOSURE behind a", x.state(0, stateIn(x, 0, 0), 1), 4);
        due(17, "DEFAULT: of several the lowest", x.state(2, joined, 3), 4);
        due(17, "CONFLICTS: d and e", x.state(2, joined, 4), 24);
        due(17, "PATH of two", x.state(2, joined, 5), 2);
        due(17, "no such what", x.state(0, 0, 6), NONE);
        due(17, "no such what", x.state(0, 0, -1), NONE);
        due(17, "no such STATE", x.state(2, 13, 0), NONE);
        due(17, "no such AUTOMATON", x.state(-1, 0, 0), NONE);
        MinimalTables y = with("S=aA;S=bB;S=cA;A=x;B=x;S=dA;S=dB");
        int d = stateIn(y, 2, 3, 4);
        due(17, "both by END: a CONFLICT, the lowest", y.state(2, d, 3), 3);
        MinimalTables z = with("S=S;S=a");
        due(17, "ACCEPT and REDUCE are a CONFLICT", z.state(0, stateIn(z, 0, 100), 4), 2);
        due(17, "no ACTION reduces: no DEFAULT", z.state(0, stateIn(z, 0, 100), 3), NONE);
        MinimalTables w = with("S=aS;S=bS;S=cS;S=dS;S=eS;S=fS;S=gS;S=hS;S=");
        due(17, "eight SIGNS and no CONFLICT", w.state(0, 0, 4), 0);
        due(17, "eight SIGNS and START", w.state(0, 0, 2), 9);
    }

    private static void going() {
        MinimalTables x = with("S=bS;S=aT;T=c");
        due(18, "by a", x.goesTo(0, 0, 0), 1);
        due(18, "by b", x.goesTo(0, 0, 1), 2);
        due(18, "by c: nowhere", x.goesTo(0, 0, 2), NONE);
        due(18, "by S", x.goesTo(0, 0, 100), 3);
        due(18, "by T: nowhere", x.goesTo(0, 0, 101), NONE);
        due(18, "b b", x.goesTo(0, 2, 1), 2);
        due(18, "END is no letter", x.goesTo(0, 0, 3), NONE);
        due(18, "no such letter", x.goesTo(0, 0, 102), NONE);
        due(18, "no such letter", x.goesTo(0, 0, 99), NONE);
        due(18, "no such letter", x.goesTo(0, 0, -1), NONE);
        due(18, "no such letter", x.goesTo(0, 0, Integer.MIN_VALUE), NONE);
        due(18, "no such letter", x.goesTo(0, 0, Integer.MAX_VALUE), NONE);
        due(18, "no such STATE", x.goesTo(0, x.states(0), 0), NONE);
        due(18, "no such AUTOMATON", x.goesTo(3, 0, 0), NONE);
        MinimalTables y = with("S=aS;S=bS;S=cS;S=dS;S=eS;S=fS;S=gS;S=hS;S=");
        due(18, "END behind eight SIGNS is no letter", y.goesTo(0, 0, 8), NONE);
    }

    private static void acting() {
        MinimalTables x = with(SPLIT);
        int plain = stateIn(x, 0, 0, 2);
        due(19, "SHIFT", x.action(0, 0, 1, false), 1002);
        due(19, "ACCEPT", x.action(0, stateIn(x, 0, 100), 5, false), 999);
        due(19, "REDUCE", x.action(0, plain, 4, false), 5);
        due(19, "NONE", x.action(0, plain, 0, false), NONE);
        due(19, "the DEFAULT", x.action(0, plain, 0, true), 4);
        due(19, "no DEFAULT", x.action(0, 0, 5, true), NONE);
        due(19, "of RULES the lowest", x.action(2, stateIn(x, 2, 0, 2), 4, false), 4);
        due(19, "no such SIGN", x.action(0, 0, 6, false), HIDDEN);
        due(19, "no such SIGN", x.action(0, 0, -1, true), HIDDEN);
        due(19, "no such STATE", x.action(0, 14, 0, false), HIDDEN);
        due(19, "no such STATE", x.action(0, -1, 0, false), HIDDEN);
        due(19, "no such AUTOMATON", x.action(3, 0, 0, false), HIDDEN);
        MinimalTables y = with("S=S;S=a");
        due(19, "ACCEPT goes first", y.action(0, stateIn(y, 0, 100), 1, false), 999);
        y.prefer(1);
        due(19, "ACCEPT goes first, whatever END prefers", y.action(0, stateIn(y, 0, 100), 1, false), 999);
        MinimalTables z = with("S=aSb;S=");
        due(19, "a RULE without letters", z.action(2, stateIn(z, 2, 0), 1, false), 1);
        MinimalTables w = with("S=a");
        due(19, "one RULE", w.action(0, 0, 0, false), 1001);
        due(19, "one RULE, END", w.action(0, 1, 1, false), 0);
    }

    private static void bridging() {
        MinimalTables x = with(SUMS); // signs i l m p r, END 5
        int e = stateIn(x, 0, 100);
        int t = stateIn(x, 0, 101);
        due(20, "F before p: over T to E", x.bridge(0, 0, 2, 3), e);
        due(20, "F before m: to T", x.bridge(0, 0, 2, 2), t);
        due(20, "F before END", x.bridge(0, 0, 2, 5), e);
        due(20, "F before i: no further", x.bridge(0, 0, 2, 0), stateIn(x, 0, 102));
        due(20, "E", x.bridge(0, 0, 0, 5), e);
        due(20, "it goes nowhere", x.bridge(0, stateIn(x, 0, 0), 2, 3), NONE);
        due(20, "no such NAME", x.bridge(0, 0, 3, 3), NONE);
        due(20, "no such NAME", x.bridge(0, 0, -1, 3), NONE);
        due(20, "no such SIGN", x.bridge(0, 0, 2, 6), NONE);
        due(20, "no such SIGN", x.bridge(0, 0, 2, -1), NONE);
        due(20, "no such STATE", x.bridge(0, x.states(0), 2, 3), NONE);
        due(20, "no such AUTOMATON", x.bridge(3, 0, 2, 3), NONE);
        MinimalTables y = with(CIRCLE);
        int a = stateIn(y, 0, 101);
        due(20, "B before a: A, where it shifts", y.bridge(0, 0, 2, 0), a);
        y.prefer(0);
        due(20, "six times in a circle: from B to B", y.bridge(0, 0, 2, 0), stateIn(y, 0, 102));
        due(20, "six times in a circle: from A to A", y.bridge(0, 0, 1, 0), a);
        MinimalTables z = with("S=A;A=B;B=C;C=D;D=E;E=x");
        due(20, "five times", z.bridge(0, 0, 5, 1), stateIn(z, 0, 100));
    }

    private static void counting() {
        MinimalTables x = with(SPLIT);
        int[][] due = {{0, 0, 1, 2, 18, 17, 6}, {0, 0, 1, 2, 18, 17, 6}, {2, 1, 0, 1, 16, 15, 5}};
        for (int kind = 0; kind < 3; kind++) {
            for (int what = 0; what < 7; what++) {
                due(21, "counts(" + kind + ", " + what + ")", x.counts(kind, what), due[kind][what]);
            }
        }
        due(21, "no such what", x.counts(0, 7), NONE);
        due(21, "no such what", x.counts(0, -1), NONE);
        due(21, "no such AUTOMATON", x.counts(3, 0), NONE);
        due(21, "not there", with(PLAIN_201).counts(0, 1), NONE);
        due(21, "no GRAMMAR", new MinimalTables().counts(0, 1), NONE);
    }

    private static void paths() {
        MinimalTables x = with("S=bT;S=aT;T=c;S=T");
        int c = stateIn(x, 2, 2);
        due(22, "c alone", x.state(2, c, 5), 1);
        due(22, "c alone", x.path(2, c, 0), 2);
        int bt = stateIn(x, 2, 1, 101);
        due(22, "b", x.path(2, bt, 0), 1);
        due(22, "T", x.path(2, bt, 1), 101);
        due(22, "behind", x.path(2, bt, 2), NONE);
        due(22, "STATE 0 has none", x.path(2, 0, 0), NONE);
        due(22, "i -1", x.path(2, bt, -1), NONE);
        due(22, "no such STATE", x.path(2, x.states(2), 0), NONE);
        due(22, "no such AUTOMATON", x.path(3, 0, 0), NONE);
        MinimalTables y = with("S=bA;S=aA;A=Bx;B=b");
        int ab = stateIn(y, 2, 1, 1);
        due(22, "of several the least: a", y.path(2, ab, 0), 0);
        due(22, "then b", y.path(2, ab, 1), 1);
    }

    private static void readings(MinimalTables x, int kind, int sentence, int mode, int... due) {
        for (int what = 0; what < 4; what++) {
            due(23, "reads(" + kind + ", " + sentence + ", " + mode + ", " + what + ")",
                x.reads(kind, sentence, mode, what), due[what]);
        }
    }

    private static void reading() {
        MinimalTables x = with(SUMS, "ipi", "ip", "iz", "");
        readings(x, 0, 0, 0, 1, 10, 3, 6);
        readings(x, 0, 0, 1, 1, 10, 3, 6);
        readings(x, 0, 0, 2, 1, 7, 3, 3);
        readings(x, 1, 1, 0, 0, 5, 2, 3);
        readings(x, 2, 1, 1, 0, 5, 2, 3);
        readings(x, 2, 2, 0, 0, 1, 1, 0); // z is strange
        readings(x, 2, 2, 1, 0, 4, 1, 3); // the DEFAULTS reduce to E
        readings(x, 2, 2, 2, 0, 1, 1, 0);
        readings(x, 2, 3, 0, 0, 0, 0, 0);
        due(23, "no such SENTENCE", x.reads(0, 4, 0, 0), NONE);
        due(23, "no such SENTENCE", x.reads(0, -1, 0, 0), NONE);
        due(23, "no such AUTOMATON", x.reads(3, 0, 0, 0), NONE);
        due(23, "no such MODE", x.reads(0, 0, 3, 0), NONE);
        due(23, "no such MODE", x.reads(0, 0, -1, 0), NONE);
        due(23, "no such what", x.reads(0, 0, 0, 4), NONE);
        due(23, "no such what", x.reads(0, 0, 0, -1), NONE);
        MinimalTables y = with(HEAP, "a", "");
        readings(y, 2, 0, 0, 2, 100, 0, 100); // 99 come behind the first; the hundredth does not
        readings(y, 2, 1, 0, 1, 2, 0, 1);
        MinimalTables z = with(CIRCLE, "xa");
        readings(z, 0, 0, 0, 1, 6, 2, 3);
        z.prefer(0);
        readings(z, 0, 0, 0, 2, 300, 1, 299);
        // nineteen times five letters and four more in the row: the twentieth sign has no room
        readings(with("S=EEEEB;B=aS;B=b;E=", "aaaaaaaaaaaaaaaaaaaaaaaa"), 0, 0, 0, 2, 100, 19, 80);
        String a23 = "aaaaaaaaaaaaaaaaaaaaaaa";
        // thirteen ACTIONS a sign: 299, and ACCEPT is the last there is room for
        readings(with("S=SA;S=A;A=BBBBC;C=BBBBD;D=a;B=", a23), 2, 0, 0, 1, 300, 23, 276);
        // one more ahead, and ACCEPT is one too many
        readings(with("S=SA;S=;A=BBBBC;C=BBBBD;D=a;B=", a23), 2, 0, 0, 2, 300, 23, 277);
        // 300 done, and then none told: it ERRS
        readings(with("S=SA;S=A;A=BBBBC;C=BBBBD;D=BBBa;D=BBBcd;B=", "aaaaaaaaaaaaaaaaaac"), 2, 0, 0, 0, 300, 19, 281);
    }

    private static void reducing() {
        MinimalTables x = with(SUMS, "ipi");
        int[] due = {5, 3, 1, 5, 3, 0};
        for (int i = 0; i < 6; i++) {
            due(24, "the " + i + "th", x.reduced(0, 0, 0, i), due[i]);
        }
        due(24, "behind", x.reduced(0, 0, 0, 6), NONE);
        due(24, "with BRIDGES", x.reduced(0, 0, 2, 1), 5);
        due(24, "with BRIDGES", x.reduced(0, 0, 2, 2), 0);
        due(24, "with BRIDGES", x.reduced(0, 0, 2, 3), NONE);
        due(24, "i -1", x.reduced(0, 0, 0, -1), NONE);
        due(24, "no such SENTENCE", x.reduced(0, 1, 0, 0), NONE);
        due(24, "no such AUTOMATON", x.reduced(-1, 0, 0, 0), NONE);
        due(24, "no such MODE", x.reduced(0, 0, 3, 0), NONE);
        MinimalTables y = with(HEAP, "a");
        due(24, "the last one, that had no room", y.reduced(2, 0, 0, 99), 1);
        due(24, "behind", y.reduced(2, 0, 0, 100), NONE);
    }

    private static void expecting() {
        MinimalTables x = with(SPLIT, "acc", "acd", "", "z"); // signs a b c d e, END 32
        due(25, "d or e", x.expects(0, 0), 24);
        due(25, "joined: the lowest RULE, so d", x.expects(2, 0), 8);
        due(25, "it ends well", x.expects(0, 1), NONE);
        due(25, "nothing READ", x.expects(0, 2), 3);
        due(25, "strange", x.expects(0, 3), 3);
        due(25, "no such SENTENCE", x.expects(0, 4), NONE);
        due(25, "no such AUTOMATON", x.expects(3, 0), NONE);
        MinimalTables y = with(SUMS, "ii", "lii");
        due(25, "m p END", y.expects(2, 0), 4 + 8 + 32);
        due(25, "PLAIN: m p r inside", y.expects(0, 1), 4 + 8 + 16);
        MinimalTables z = with(HEAP, "a", "aa");
        due(25, "LOST is not ERRS", z.expects(2, 0), NONE);
        MinimalTables w = with(CIRCLE, "xx");
        due(25, "a", w.expects(0, 0), 1);
        w.prefer(0);
        due(25, "a would be LOST", w.expects(0, 0), 0);
        // END would take 299 reductions, and is ACCEPTED as the 300th; or some more, and is LOST
        String a15 = "aaaaaaaaaaaaaaaz";
        due(25, "300 ACTIONS anew", with("S=aAEE;A=BEEEE;B=CEEEE;C=DEEEE;D=SE;D=;E=", a15).expects(0, 0), 3);
        due(25, "more than 300", with("S=aAEEE;A=BEEEE;B=CEEEE;C=DEEEE;D=SE;D=;E=", a15).expects(0, 0), 1);
    }

    private static void mending() {
        MinimalTables x = with(SPLIT, "acc", "acd", "acdd", "cd");
        due(26, "d in place of the last", x.mends(0, 0), 204);
        due(26, "it ends well", x.mends(0, 1), HIDDEN);
        due(26, "the third left out: place 2", x.mends(0, 2), 200);
        due(26, "a put in ahead", x.mends(0, 3), 20);
        due(26, "no such SENTENCE", x.mends(0, 4), NONE);
        due(26, "no such AUTOMATON", x.mends(3, 0), NONE);
        MinimalTables y = with("S=aS;S=b", "aa", "aaaaaaaaaaaaaaaaaaaaaaaa", "bzz", "az");
        due(26, "b in place of the first a? no: of the last", y.mends(0, 0), 102);
        due(26, "24: b in place of the last", y.mends(0, 1), 2302);
        due(26, "by none", y.mends(0, 2), NONE);
        due(26, "a strange one replaced", y.mends(0, 3), 102);
        due(26, "no GRAMMAR", new MinimalTables().mends(0, 0), NONE);
        MinimalTables u = with("S=aaaaB;B=aaaaC;C=aaaaD;D=aaaaE;E=aaaaF;F=aaaab", "aaaaaaaaaaaaaaaaaaaaaaaa");
        due(26, "25 would be needed", u.mends(0, 0), NONE);
        MinimalTables v = with("S=aaaaB;B=aaaaC;C=aaaaD;D=aaaaE;E=aaaaF;F=aaab", "aaaaaaaaaaaaaaaaaaaaaaa");
        due(26, "behind the last: the 24th", v.mends(0, 0), 2321);
        MinimalTables w = with("S=aab", "ab");
        due(26, "the same SIGN ahead of itself", w.mends(0, 0), 20);
        MinimalTables t = with("S=babaT;T=babaU;U=babaV;V=babaW;W=babaX;X=baba", "abababababababababababab");
        due(26, "24: none is put in, and none falls out behind", t.mends(0, 0), NONE);
    }

    private static void treesBuilt(MinimalTables x, int i, int size, int ahead, int high) {
        due(27, "SIGNS of " + i, x.tree(2, 0, i, 0), size);
        due(27, "ahead of " + i, x.tree(2, 0, i, 1), ahead);
        due(27, "HIGH of " + i, x.tree(2, 0, i, 2), high);
    }

    private static void building() {
        MinimalTables x = with(SUMS, "ipi");
        treesBuilt(x, 0, 1, 0, 1);
        treesBuilt(x, 1, 1, 0, 2);
        treesBuilt(x, 2, 1, 0, 3);
        treesBuilt(x, 3, 1, 2, 1);
        treesBuilt(x, 4, 1, 2, 2);
        treesBuilt(x, 5, 3, 0, 4);
        due(27, "behind", x.tree(2, 0, 6, 0), NONE);
        due(27, "i -1", x.tree(2, 0, -1, 0), NONE);
        due(27, "no such what", x.tree(2, 0, 0, 3), NONE);
        due(27, "no such what", x.tree(2, 0, 0, -1), NONE);
        due(27, "no such SENTENCE", x.tree(2, 1, 0, 0), NONE);
        due(27, "no such AUTOMATON", x.tree(3, 0, 0, 0), NONE);
        MinimalTables y = with("S=aSb;S=", "aabb");
        treesBuilt(y, 0, 0, 2, 1);
        treesBuilt(y, 1, 2, 1, 2);
        treesBuilt(y, 2, 4, 0, 3);
        MinimalTables z = with(HEAP, "a");
        treesBuilt(z, 99, 0, 0, 1);
    }

    private static void sorting() {
        due(28, "all", with("S=aS;S=b").sorts(), 31);
        due(28, "none", with(DANGLING).sorts(), 0);
        due(28, "by FOLLOW and on", with(SUMS).sorts(), 30);
        due(28, "JOINED and on", with("S=LeR;S=R;L=sR;L=i;R=L").sorts(), 28);
        due(28, "WEAK and on", with(SPLIT).sorts(), 24);
        due(28, "selected, and yet by FOLLOW not joined", with("S=AaAb;S=BbBa;A=;B=").sorts(), 29);
        due(28, "no GRAMMAR", new MinimalTables().sorts(), NONE);
        due(28, "none there", with(NONE_THERE).sorts() & 30, 0);
        MinimalTables x = with(DANGLING);
        x.toggle(0);
        due(28, "with a RULE OUT", x.sorts(), 31);
    }

    private static void sameness() {
        MinimalTables x = with(SPLIT);
        due(29, "ace ends well by PLAIN alone", x.same(0, 2, 3), 135);
        due(29, "up to 4", x.same(1, 2, 4), 135);
        due(29, "none by JOINED and not by PLAIN", x.same(2, 0, 3), NONE);
        due(29, "nor of 4", x.same(2, 0, 4), NONE);
        due(29, "none by JOINED and not by WEAK", x.same(2, 1, 4), NONE);
        due(29, "none so short", x.same(0, 2, 2), NONE);
        due(29, "alike", x.same(0, 1, 4), NONE);
        due(29, "itself", x.same(2, 2, 4), NONE);
        due(29, "m -1", x.same(0, 2, -1), NONE);
        due(29, "m 5", x.same(0, 2, 5), NONE);
        due(29, "no such AUTOMATON", x.same(3, 0, 3), NONE);
        due(29, "no such AUTOMATON", x.same(0, -1, 3), NONE);
        due(29, "not there", with(PLAIN_201).same(0, 1, 3), NONE);
        MinimalTables y = with("A=aaa;B=aaaC;C=;C=Ba;A=A;B=;B=CC;A=CCB");
        due(29, "the word of no SIGN", y.same(0, 2, 0), 0);
        due(29, "the word of no SIGN is the first", y.same(0, 2, 4), 0);
        due(29, "not by JOINED alone", y.same(2, 0, 0), NONE);
        due(29, "nor another word", y.same(2, 0, 4), NONE);
        MinimalTables z = with("A=;B=;B=BBcAA;A=;A=BA;B=a");
        due(29, "c ends well by PLAIN and not by WEAK", z.same(0, 1, 4), 2);
        due(29, "none by WEAK and not by PLAIN", z.same(1, 0, 4), NONE);
        due(29, "one SIGN: aaa", with("A=a;B=AB;A=AaB;B=aA;A=Aaa").same(0, 2, 4), 111);
        due(29, "bcca", with("A=Bc;B=Bc;A=bB;B=aBBBc;B=cc;B=bAa;B=;B=bAc;A=B").same(0, 2, 4), 2331);
        due(29, "baca", with("A=;B=;A=bBB;A=Bca;A=Bbb;B=aA").same(0, 2, 4), 2131);
        due(29, "no SIGNS", with("S=A;A=").same(0, 2, 4), NONE);
    }

    private static void words() {
        MinimalTables x = with("S=aS;S=b"); // draws of 2: seed 0: 1; seed 1: 0 1; seed 2: 0 0 0 0 1; seed -1: 0 1
        due(30, "b", x.word(0, NONE), 1);
        due(30, "b", x.word(0, 0), 1);
        due(30, "ab", x.word(1, NONE), 2);
        due(30, "ab", x.word(1, 0), 0);
        due(30, "ab", x.word(1, 1), 1);
        due(30, "behind", x.word(1, 2), NONE);
        due(30, "i -2", x.word(1, -2), NONE);
        due(30, "aaaab", x.word(2, NONE), 5);
        due(30, "ab", x.word(-1, NONE), 2);
        due(30, "no GRAMMAR", new MinimalTables().word(1, NONE), NONE);
        x.toggle(0);
        due(30, "b alone", x.word(2, NONE), 1);
        x.toggle(1);
        due(30, "no RULE", x.word(2, NONE), NONE);
        // always drawn twelve times, then the shortest
        MinimalTables y = with("S=aS;S=aT;T=aS;T=aT");
        due(30, "no SHORTEST", y.word(5, NONE), NONE);
        MinimalTables z = with("S=aS;S=bS;S=cS;S=dS;S=eS;S=fS;S=gS;S=aS;S=bS;S=cS;S=dS;S=eS;S=fS;S=gS;S=aS;S=h");
        due(30, "twelve and one", z.word(1, NONE), 13);
        due(30, "the shortest", z.word(1, 12), 7);
        due(30, "the first draw of 16: 6", z.word(1, 0), 6);
        due(30, "the second draw of 16: 9", z.word(1, 1), 2);
        MinimalTables w = with("S=SSSSS;S=SSSSS;S=SSSSS;S=SSSSS;S=SSSSS;S=SSSSS;S=SSSSS;S=SSSSS;S=SSSSS;S=SSSSS;"
            + "S=SSSSS;S=SSSSS;S=SSSSS;S=SSSSS;S=SSSSS;S=aaaaa");
        due(30, "more than 60 letters", w.word(1, NONE), NONE);
        due(30, "one RULE", with("S=ab").word(7, NONE), 2);
        due(30, "just 60", with("S=TTTTT;T=UUUU;U=aaa").word(7, NONE), 60);
        due(30, "61", with("S=TTTTV;T=UUUU;U=aaa;V=UUUUW;W=a").word(7, NONE), NONE);
        due(30, "200 times", with("S=TTTTX;T=UUUU;U=VVVVV;V=W;W=;X=UVVVW").word(7, NONE), 0);
        due(30, "201 times", with("S=TTTTX;T=UUUU;U=VVVVV;V=W;W=;X=UVVVV").word(7, NONE), NONE);
    }

    private static void keeping() {
        MinimalTables x = with("S=aS;S=b");
        due(31, "ab", x.keep(1), 0);
        due(31, "aaaab", x.keep(2), 1);
        due(31, "two", x.sign(0, NONE), 2);
        due(31, "a", x.sign(0, 0), 0);
        due(31, "b", x.sign(0, 1), 1);
        due(31, "it is read", x.reads(2, 1, 0, 0), 1);
        x.keep(1);
        x.keep(1);
        due(31, "a fifth", x.keep(1), NONE);
        due(31, "four", x.count(3), 4);
        due(31, "no GRAMMAR", new MinimalTables().keep(1), NONE);
        due(31, "none", with("S=S").keep(1), NONE);
        MinimalTables y = with("S=aaaaT;T=aaaaU;U=aaaaV;V=aaaaW;W=aaaaX;X=aaaa");
        due(31, "24", y.keep(1), 0);
        MinimalTables z = with("S=aaaaT;T=aaaaU;U=aaaaV;V=aaaaW;W=aaaaX;X=aaaaa");
        due(31, "25 are a WORD", z.word(1, NONE), 25);
        due(31, "25 are too many", z.keep(1), NONE);
        due(31, "none kept", z.count(3), 0);
        MinimalTables w = with("S=mz");
        w.keep(1);
        Grammars.feed(w, "S=azm");
        w.text(0);
        due(31, "kept by letters", w.sign(0, 0) * 10 + w.sign(0, 1), 12);
    }

    private static void imaging() {
        MinimalTables x = with("S=a;S=b;S=c");
        due(32, "no GRAMMAR", new MinimalTables().image(), NONE);
        x.toggle(1);
        x.prefer(0);
        due(32, "two are IN", x.image(), 2);
        due(32, "ACTS stay", x.count(6), 2);
        x.toggle(0);
        due(32, "instead of the one ahead", x.image(), 1);
        x.toggle(0);
        x.toggle(1);
        due(32, "the latest", x.back(), 1);
        due(32, "0 is OUT", x.rule(0, 2), 0);
        due(32, "1 is OUT", x.rule(1, 2), 0);
        due(32, "a prefers: not any more now", x.prefer(0), 0);
    }

    private static void goingBack() {
        MinimalTables x = with("S=a;S=b;S=c");
        due(33, "no IMAGE", x.back(), NONE);
        x.image();
        x.toggle(0);
        x.toggle(2);
        x.prefer(1);
        due(33, "three are IN", x.back(), 3);
        due(33, "no ACT", x.count(6), 0);
        due(33, "nothing to undo", x.undo(), NONE);
        due(33, "b does not prefer: it does now", x.prefer(1), 1);
        due(33, "STATES as at first", x.states(2), 5);
        due(33, "the IMAGE is still there", x.back(), 3);
        due(33, "b does not prefer again", x.prefer(1), 1);
        Grammars.feed(x, "S=a");
        x.text(0);
        due(33, "no IMAGE of this GRAMMAR", x.back(), NONE);
        due(33, "no GRAMMAR", new MinimalTables().back(), NONE);
    }

    private static void counts() {
        MinimalTables x = with(SUMS, "i", "l");
        Grammars.feed(x, "abcde");
        x.toggle(0);
        x.toggle(1);
        x.prefer(0);
        int[] due = {6, 3, 5, 2, 5, 4, 3};
        for (int what = 0; what < 7; what++) {
            due(34, "count(" + what + ")", x.count(what), due[what]);
        }
        due(34, "count(7)", x.count(7), HIDDEN);
        due(34, "count(-1)", x.count(-1), HIDDEN);
        due(34, "NONE", MinimalTables.NONE, NONE);
        due(34, "HIDDEN", MinimalTables.HIDDEN, HIDDEN);
    }

    public static void main(String[] args) {
        newObject();
        feeding();
        ending();
        faults();
        texts();
        rules();
        letters();
        signs();
        namesOneByOne();
        treesCounted();
        namesInBits();
        toggling();
        preferring();
        undoing();
        statesCounted();
        looks();
        statesTold();
        going();
        acting();
        bridging();
        counting();
        paths();
        reading();
        reducing();
        expecting();
        mending();
        building();
        sorting();
        sameness();
        words();
        keeping();
        imaging();
        goingBack();
        counts();
        tellAll();
    }
}
