/**
 * The edges of AUTOMATA, ACTIONS, DEFAULTS and BRIDGES. Each method holds one sentence. How many STATES there are of the
 * grammars near 200 was found by a search (the Oracle agrees); the rest was found by hand.
 */
public final class TableEdgesTest extends Answers {
    private static final int[] ODD = {-1, -2, -100, 1000, Integer.MIN_VALUE, Integer.MAX_VALUE};
    private static final String PLAIN_200 = "A=ad;B=cdBbA;A=AbBBa;B=dBdBA;A=BAcAB;B=;B=";
    private static final String PLAIN_201 = "A=AcAB;B=daA;A=bB;B=Ac;B=bAda;B=;A=aBA;B=dAaAc";
    private static final String WEAK_200 = "A=aaaaE;B=;C=B;D=aC;E=bDA;C=bA;C=aD;E=aaaD;B=;D=bE;A=bbaE;A=abbC;D=;C=A;B=;D=bba";
    private static final String WEAK_201 = "A=aaaaB;B=;C=c;D=aC;E=bDD;C=bA;C=aD;E=aaaD;C=;D=bB;A=bbaE;A=abbC;C=;C=A;B=E;D=bba";
    private static final String JOINED_200 =
        "A=AaE;B=aaC;C=CaE;D=aaE;E=aBBCA;D=BA;A=aaaaD;B=BEAE;B=;A=;A=AaaE;D=a;C=aABD;E=aaa;B=;B=";
    private static final String JOINED_201 =
        "A=bbEB;B=ab;C=;D=bbA;E=bDAD;D=BCaEC;A=ba;C=bbB;B=bbC;C=aCB;C=aE;A=abE;A=;D=abA;E=aD;B=";
    /** By WEAK 200 arise, and four of them are not come to at the end. */
    private static final String ARISE_200 =
        "A=CEc;B=;C=abaD;D=EbDa;E=aaAc;F=CaBE;F=aa;A=bA;A=aaD;F=bCB;B=aaBF;C=aaaF;B=ccc;B=ba;C=bD;D=bF";
    /** By WEAK 201 arise: 197 would be told. */
    private static final String ARISE_201 =
        "A=CEc;B=;C=abaD;D=EbDa;E=aaAc;F=CaBE;F=aa;A=bA;A=aaD;F=bCB;B=aaBF;C=aaaF;B=cccE;B=ba;C=bD;D=bF";

    // "(If that is no sign at all, the ITEM is not there for that.)"; "LOOK .. (bits; never none)"
    private static void lookOfNone() {
        MinimalTables x = with("S=AB;A=a;B=Bb;B=b"); // signs a b, END 4
        for (int kind = 0; kind < 3; kind++) {
            due("B begins with b", x.look(kind, 0, 1, 0, true), 2);
            due("three ITEMS", x.state(kind, 0, 1), 3);
            due("by a, S, A", x.state(kind, 0, 2), 3);
        }
        x.toggle(3);
        for (int kind = 0; kind < 3; kind++) {
            due("nothing begins B: A=a is not there", x.look(kind, 0, 1, 0, true), 0);
            due("two ITEMS", x.state(kind, 0, 1), 2);
            due("by S, A", x.state(kind, 0, 2), 2);
            due("by a: nowhere", x.goesTo(kind, 0, 0), NONE);
            due("behind A it is there", x.look(kind, stateIn(x, kind, 101), 2, 0, true), 2 + 4);
            due("STATES: 0, S, A, AB, ABb", x.states(kind), 5);
        }
        MinimalTables y = with("S=AB;S=A;A=a;B=Bb");
        for (int kind = 0; kind < 3; kind++) {
            due("there for the other RULE, by END", y.look(kind, 0, 2, 0, true), 4);
        }
    }

    // "CLOSURE of ITEMS: the least in which, for each ITEM whose DOT stands ahead of a NAME and each RULE of that (IN) ..":
    // as often as anything comes to it, whatever the order of RULES.
    private static void closureGoesOn() {
        MinimalTables x = with("S=F;B=b;C=B;D=C;E=D;F=E"); // sign b, END
        for (int kind = 0; kind < 3; kind++) {
            for (int rule = 0; rule < 6; rule++) {
                due("RULE " + rule + " is in the first CLOSURE", x.look(kind, 0, rule, 0, true), 2);
            }
            due("seven ITEMS", x.state(kind, 0, 1), 7);
        }
        x.toggle(3);
        due("not over a RULE OUT", x.look(0, 0, 2, 0, true), 0);
        due("as far as that", x.look(0, 0, 4, 0, true), 2);
        MinimalTables y = with("S=Fa;S=F;B=b;C=B;D=C;E=D;F=E;F=Fb"); // signs a b, END
        due("LOOKS, too: all the way down", y.look(0, 0, 2, 0, true), 7);
    }

    // "ITEMS: a RULE and a DOT (0 .. its length ..); besides, the OUTER RULE, whose number is how many RULES are told"
    private static void looksInBounds() {
        MinimalTables x = with("S=abcde;".repeat(15) + "S=abcde"); // END 32
        int last = stateIn(x, 0, 0, 1, 2, 3, 4);
        for (int rule = 0; rule < 16; rule++) {
            due("the DOT behind all five", x.look(0, last, rule, 5, false), 32);
            due("in the CLOSURE too", x.look(0, last, rule, 5, true), 32);
            due("the DOT ahead of all", x.look(0, 0, rule, 0, true), 32);
            due("not in the KERNEL", x.look(0, 0, rule, 0, false), 0);
            due("no sixth letter", x.look(0, last, rule, 6, true), NONE);
        }
        due("16 ITEMS in the KERNEL", x.state(0, last, 0), 16);
        due("and 17 in the first CLOSURE", x.state(0, 0, 1), 17);
        due("the OUTER RULE", x.look(0, 0, 16, 0, false), 32);
        due("the OUTER RULE's DOT behind START", x.look(0, stateIn(x, 0, 100), 16, 1, false), 32);
        due("it is not in 0", x.look(0, 0, 16, 1, true), 0);
        due("the OUTER RULE has one letter", x.look(0, 0, 16, 2, true), NONE);
        due("none behind the OUTER RULE", x.look(0, 0, 17, 0, true), NONE);
        due("the last STATE", x.look(0, x.states(0) - 1, 0, 0, true), 0);
        due("none behind it", x.look(0, x.states(0), 0, 0, true), NONE);
        for (int odd : ODD) {
            due("kind " + odd, x.look(odd, 0, 0, 0, true), NONE);
            due("STATE " + odd, x.look(0, odd, 0, 0, true), NONE);
            due("RULE " + odd, x.look(0, 0, odd, 0, true), NONE);
            due("DOT " + odd, x.look(0, 0, 0, odd, true), NONE);
        }
        due("kind 3", x.look(3, 0, 0, 0, true), NONE);
        x.toggle(0);
        due("OUT: not in it, yet such a one", x.look(0, 0, 0, 0, true), 0);
        due("OUT: no sixth letter still", x.look(0, 0, 0, 6, true), NONE);
        due("the OUTER RULE's number stays", x.look(0, 0, 16, 0, true), 32);
        MinimalTables y = with("S=SSSSS;".repeat(15) + "S=a");
        int[] sizes = {16, 30, 45, 60, 75, 75};
        int state = 0;
        for (int i = 0; i < 6; i++) {
            state = y.goesTo(2, state, 100);
            due("ITEMS behind so many S", y.state(2, state, 0), sizes[i]);
            due("and in the CLOSURE", y.state(2, state, 1), sizes[i] + 16);
        }
        due("STATES", y.states(2), 7);
    }

    private static void notThere(MinimalTables x, int kind) {
        due("states", x.states(kind), NONE);
        due("look", x.look(kind, 0, 0, 0, true), NONE);
        due("state", x.state(kind, 0, 0), NONE);
        due("goesTo", x.goesTo(kind, 0, 100), NONE);
        due("action", x.action(kind, 0, 0, false), HIDDEN);
        due("action by DEFAULTS", x.action(kind, 0, 0, true), HIDDEN);
        due("bridge", x.bridge(kind, 0, 0, 0), NONE);
        for (int what = 0; what < 7; what++) {
            due("counts", x.counts(kind, what), NONE);
        }
        due("path", x.path(kind, 0, 0), NONE);
        due("reads", x.reads(kind, 0, 0, 0), NONE);
        due("reduced", x.reduced(kind, 0, 0, 0), NONE);
        due("expects", x.expects(kind, 0), NONE);
        due("mends", x.mends(kind, 0), NONE);
        due("tree", x.tree(kind, 0, 0, 0), NONE);
        for (int other = 0; other < 3; other++) {
            due("same", x.same(kind, other, 4), NONE);
            due("same", x.same(other, kind, 4), NONE);
        }
        due("SORTS without its bits", x.sorts() & (kind == 2 ? 30 : kind == 1 ? 24 : 16), 0);
    }

    // "There would be more than 200 STATES (ahead of that): the AUTOMATON is not there."
    private static void states200() {
        String[] inside = {PLAIN_200, WEAK_200, JOINED_200};
        String[] outside = {PLAIN_201, WEAK_201, JOINED_201};
        for (int kind = 0; kind < 3; kind++) {
            MinimalTables x = with(inside[kind], "a");
            due("200 of kind " + kind, x.states(kind), 200);
            due("the last of 200", x.state(kind, 199, 0) > 0, true);
            due("none behind it", x.state(kind, 200, 0), NONE);
            due("it reads", x.reads(kind, 0, 0, 0) >= 0, true);
            MinimalTables y = with(outside[kind], "a");
            notThere(y, kind);
            for (int more = kind + 1; more < 3; more++) {
                due("what is merged more is there", y.states(more) > 0, true);
            }
            for (int rule = 1; rule < y.count(0); rule++) {
                y.toggle(rule);
            }
            due("with one RULE it is there", y.states(kind) > 0, true);
            y.undo();
            for (int rule = 1; rule < y.count(0) - 1; rule++) {
                y.undo();
            }
            due("with all RULES it is not, again", y.states(kind), NONE);
            Grammars.feed(y, inside[kind]);
            y.text(0);
            due("by another GRAMMAR it has 200", y.states(kind), 200);
        }
        due("200 arose, four of them are none at the end", with(ARISE_200).states(1), 196);
        MinimalTables z = with(PLAIN_201);
        due("201 would be", z.states(0), NONE);
        z.toggle(1);
        MinimalTables fresh = with(PLAIN_201);
        fresh.toggle(1);
        due("there with a RULE less", z.states(0), fresh.states(0));
        due("as many as there are without that RULE", z.states(0), with(PLAIN_201.replace("B=daA;", "")).states(0));
        notThere(with(ARISE_201, "a"), 1);
    }

    // "states .. NONE: .. no such AUTOMATON", and "no such ones" of what is asked of a STATE.
    private static void noSuchStates() {
        MinimalTables x = with("S=aT;T=b"); // signs a b; STATES 0, a, S, ab, aT
        due("five", x.states(0), 5);
        due("kind 2 is the last", x.states(2), 5);
        due("kind 3", x.states(3), NONE);
        due("the last what of a STATE", x.state(0, 4, 5), 2);
        due("the one behind", x.state(0, 4, 6), NONE);
        due("a STATE behind the last", x.state(0, 5, 0), NONE);
        due("the last what of counts: ab and aT", x.counts(0, 6), 2);
        due("the one behind", x.counts(0, 7), NONE);
        due("counts of kind 3", x.counts(3, 0), NONE);
        due("state of kind 3", x.state(3, 0, 0), NONE);
        due("action of kind 3", x.action(3, 0, 0, false), HIDDEN);
        due("END", x.action(0, 2, 2, false), 999);
        due("behind END", x.action(0, 2, 3, false), HIDDEN);
        due("behind END, by DEFAULTS", x.action(0, 3, 3, true), HIDDEN);
        due("action of a STATE behind the last", x.action(0, 5, 0, true), HIDDEN);
        for (int odd : ODD) {
            due("states(" + odd + ")", x.states(odd), NONE);
            due("state of kind " + odd, x.state(odd, 0, 0), NONE);
            due("state of STATE " + odd, x.state(0, odd, 0), NONE);
            due("state what " + odd, x.state(0, 0, odd), NONE);
            due("counts of kind " + odd, x.counts(odd, 0), NONE);
            due("counts what " + odd, x.counts(0, odd), NONE);
            due("action of kind " + odd, x.action(odd, 0, 0, false), HIDDEN);
            due("action of STATE " + odd, x.action(0, odd, 0, true), HIDDEN);
            due("action by SIGN " + odd, x.action(0, 0, odd, true), HIDDEN);
        }
    }

    // "goesTo: .. by a letter (a SIGN's number, 100 and a NAME's). NONE: nowhere, no such ones."
    private static void lettersOfGoesTo() {
        MinimalTables x = with("S=aT;T=b");
        due("the first SIGN", x.goesTo(0, 0, 0), 1);
        due("the last SIGN", x.goesTo(0, 1, 1), 3);
        due("END", x.goesTo(0, 0, 2), NONE);
        due("behind END", x.goesTo(0, 0, 3), NONE);
        due("99", x.goesTo(0, 0, 99), NONE);
        due("the first NAME", x.goesTo(0, 0, 100), 2);
        due("the last NAME", x.goesTo(0, 1, 101), 4);
        due("behind it", x.goesTo(0, 1, 102), NONE);
        due("nowhere", x.goesTo(0, 0, 1), NONE);
        due("kind 3", x.goesTo(3, 0, 0), NONE);
        due("a STATE behind the last", x.goesTo(0, 5, 0), NONE);
        for (int odd : ODD) {
            due("letter " + odd, x.goesTo(0, 0, odd), NONE);
            due("STATE " + odd, x.goesTo(0, odd, 0), NONE);
            due("kind " + odd, x.goesTo(odd, 0, 0), NONE);
        }
        // where the grammar has eight SIGNS, or six NAMES, the numbers behind them are no other letters
        MinimalTables y = with("S=aS;S=bS;S=cS;S=dS;S=eS;S=fS;S=gS;S=hS;S=");
        due("the eighth SIGN", y.goesTo(0, 0, 7), 8);
        for (int letter = 8; letter < 100; letter++) {
            due("letter " + letter, y.goesTo(0, 0, letter), NONE);
        }
        MinimalTables z = with("A=BCDEF;B=;C=;D=;E=;F=");
        due("the sixth NAME", z.goesTo(0, stateIn(z, 0, 101, 102, 103, 104), 105) > 0, true);
        due("none behind it", z.goesTo(0, stateIn(z, 0, 101, 102, 103, 104), 106), NONE);
    }

    // "At the end STATES are numbered anew: 0, then, from STATES rising, for each letter .. that to which it GOES, if it
    // has no number yet"
    private static void numberedAnew() {
        for (String grammar : Grammars.KNOWN) {
            for (int kind = 0; kind < 3; kind++) {
                int states = with(grammar).states(kind);
                int next = 1;
                MinimalTables x = null;
                for (int state = 0; state < states; state++) {
                    x = state % 20 == 0 ? with(grammar) : x;
                    int signs = x.count(2);
                    for (int i = 0; i < signs + x.count(1); i++) {
                        int goal = x.goesTo(kind, state, i < signs ? i : 100 + i - signs);
                        due(grammar + ": not ahead of its turn", goal <= next, true);
                        next += goal == next ? 1 : 0;
                    }
                }
                due(grammar + ": all are come to", next, Math.max(states, 1));
            }
        }
    }

    // "WEAKLY COMPATIBLE: of any two unlike ITEMS i, j .. nothing in common ..; or .. something in common in the one, or in
    // the other one"
    private static void compatible() {
        String rest = ";A=c;B=c";
        weak("nothing in common", "S=aAd;S=aBe;S=bAf;S=bBg" + rest, 14, 13);
        weak("both have crossed", "S=aAd;S=aBe;S=bAe;S=bBd" + rest, 14, 14);
        weak("one way crossed", "S=aAd;S=aBe;S=bAe;S=bBf" + rest, 14, 14);
        weak("the other way crossed", "S=aAe;S=aBd;S=bAf;S=bBe" + rest, 14, 14);
        weak("crossed, but in common in the one", "S=aAd;S=aBd;S=bAe;S=bBd" + rest, 14, 13);
        weak("crossed, but in common in the other one", "S=aAe;S=aBd;S=bAd;S=bBd" + rest, 14, 13);
        weak("the same KERNEL", "S=aAd;S=aBe;S=bAd;S=bBe" + rest, 13, 13);
    }

    private static void weak(String what, String grammar, int plain, int weak) {
        MinimalTables x = with(grammar);
        due(what + ": PLAIN", x.states(0), plain);
        due(what + ": WEAK", x.states(1), weak);
        due(what + ": JOINED", x.states(2), 13);
        due(what + ": SPLIT", x.counts(1, 2), weak - 13);
        due(what + ": MOST", x.counts(1, 3), weak - 12);
    }

    // "is any more by that, it comes to the end of the queue": what is merged later is gone through again.
    private static void goneThroughAgain() {
        MinimalTables x = with("S=aAd;S=bAe;A=cF;F=fG;G=g"); // signs a b c d e f g: d 8, e 16
        for (int kind = 1; kind < 3; kind++) {
            int c = stateIn(x, kind, 0, 2);
            due("one STATE behind c", stateIn(x, kind, 1, 2), c);
            due("behind c", x.look(kind, c, 2, 1, false), 24);
            due("in the CLOSURE", x.look(kind, c, 3, 0, true), 24);
            due("behind f", x.look(kind, stateIn(x, kind, 0, 2, 5), 3, 1, false), 24);
            due("behind g", x.look(kind, stateIn(x, kind, 0, 2, 5, 6), 4, 1, false), 24);
            due("STATES", x.states(kind), 13);
        }
        due("PLAIN: behind a", x.look(0, stateIn(x, 0, 0, 2, 5, 6), 4, 1, false), 8);
        due("PLAIN: behind b", x.look(0, stateIn(x, 0, 1, 2, 5, 6), 4, 1, false), 16);
        due("PLAIN: five CORES are split", x.counts(0, 2), 5);
    }

    // "any more by that, it comes to the end of the queue, if it is not in it"; "those that are not come to are none";
    // "the others rising: the first with which NEXT is WEAKLY COMPATIBLE": found by a search, the Oracle agrees.
    private static void queueOfWeak() {
        due("not twice in the queue", with("A=BB;B=CBC;C=BAbBA;B=c").states(1), 13);
        due("the first of several that would do", with("A=AAcB;B=a;B=AB").states(1), 10);
        MinimalTables x = with("A=bbAaB;B=ba;B=AAB;B=;B=bB");
        due("what is not come to is no STATE of its CORE: as many as JOINED has", x.states(1), x.states(2));
        due("SPLIT", x.counts(1, 2), 0);
        due("MOST", x.counts(1, 3), 1);
        int items = 0;
        for (int state = 0; state < x.states(1); state++) {
            items += x.state(1, state, 0);
        }
        due("ITEMS of KERNELS of those that are come to", x.counts(1, 4), items);
    }

    // "counts: How many CONFLICTS (0: of all STATES, each SIGN for itself), STATES with some (1) .., ACTIONS that are not
    // NONE (5), STATES with a DEFAULT (6)": from STATE 0 to the last one, and none of the GRAMMAR ahead.
    private static void countsOfStates() {
        MinimalTables x = with("S=SS;S=a;S=");
        x.prefer(0);
        for (int kind = 0; kind < 3; kind++) {
            due("STATE 2 has a CONFLICT", x.state(kind, 2, 4) != 0, true);
            due("STATE 2 has a DEFAULT", x.state(kind, 2, 3) >= 0, true);
            due("CONFLICTS", x.counts(kind, 0) > 2, true);
        }
        Grammars.feed(x, "S=;S=");
        x.text(0);
        for (int kind = 0; kind < 3; kind++) {
            due("two STATES", x.states(kind), 2);
            due("one CONFLICT, in STATE 0", x.counts(kind, 0), 1);
            due("one STATE with it", x.counts(kind, 1), 1);
            due("SPLIT", x.counts(kind, 2), 0);
            due("MOST", x.counts(kind, 3), 1);
            due("an ITEM in each KERNEL", x.counts(kind, 4), 2);
            due("REDUCE, ACCEPT", x.counts(kind, 5), 2);
            due("STATE 0 has a DEFAULT", x.counts(kind, 6), 1);
        }
    }

    // "More than one: a CONFLICT.": by each SIGN for itself, of any two of several RULES.
    private static void conflictsOfThree() {
        String[] grammars = {"S=aAd;S=aBd;S=aCe", "S=aAd;S=aBe;S=aCd", "S=aAe;S=aBd;S=aCd"};
        int[] lowest = {3, 3, 4};
        for (int i = 0; i < 3; i++) {
            MinimalTables x = with(grammars[i] + ";A=c;B=c;C=c"); // signs a c d e
            for (int kind = 0; kind < 3; kind++) {
                int c = stateIn(x, kind, 0, 1);
                due("by d alone", x.state(kind, c, 4), 4);
                due("the lowest", x.action(kind, c, 2, false), lowest[i]);
                due("one in all", x.counts(kind, 0), 1);
            }
            due("SORTS: none", x.sorts(), 0);
        }
        MinimalTables y = with("S=aAd;S=aBd;S=aBe;S=aCe;A=c;B=c;C=c");
        due("by d and by e", y.state(0, stateIn(y, 0, 0, 1), 4), 12);
        due("two in all", y.counts(0, 0), 2);
        due("in one STATE", y.counts(0, 1), 1);
    }

    // "More than one: a CONFLICT."; "ACCEPT goes first, then SHIFT (behind REDUCE, if that SIGN PREFERS to reduce), of
    // RULES the lowest."
    private static void conflicts() {
        MinimalTables x = with("S=Ae;S=Be;S=aee;B=a;A=a"); // signs a e, END
        for (int kind = 0; kind < 3; kind++) {
            int a = stateIn(x, kind, 0);
            due("three things by e are one CONFLICT", x.state(kind, a, 4), 2);
            due("one in all", x.counts(kind, 0), 1);
            due("in one STATE", x.counts(kind, 1), 1);
            due("SHIFT", x.action(kind, a, 1, false), 1000 + x.goesTo(kind, a, 1));
        }
        x.prefer(1);
        for (int kind = 0; kind < 3; kind++) {
            int a = stateIn(x, kind, 0);
            due("of RULES the lowest", x.action(kind, a, 1, false), 3);
            due("still a CONFLICT", x.state(kind, a, 4), 2);
            due("no REDUCE: SHIFT all the same", x.action(kind, stateIn(x, kind, 0, 1), 1, false) >= 1000, true);
        }
        x.toggle(3);
        due("of the RULES that are IN", x.action(0, stateIn(x, 0, 0), 1, false), 4);
        x.toggle(4);
        due("one thing is no CONFLICT", x.state(0, stateIn(x, 0, 0), 4), 0);
        due("SHIFT, though e PREFERS", x.action(0, stateIn(x, 0, 0), 1, false) >= 1000, true);
        MinimalTables y = with("S=S;S=a");
        int s = stateIn(y, 0, 100);
        due("ACCEPT and REDUCE", y.state(0, s, 4), 2);
        due("ACCEPT", y.action(0, s, 1, false), 999);
        y.prefer(1);
        due("ACCEPT, though END PREFERS", y.action(0, s, 1, false), 999);
        MinimalTables z = with("S=aS;S=bS;S=cS;S=dS;S=eS;S=fS;S=gS;S=hS;S=SS;S=");
        int behind = stateIn(z, 2, 100, 100);
        due("all eight SIGNS and END", z.state(2, behind, 4), 511);
        due("END: of RULES the lowest", z.action(2, behind, 8, false), 8);
    }

    // "DEFAULT of a STATE: of RULES that its ACTIONS .. REDUCE that which most do (of several the lowest); by DEFAULTS each
    // ACTION that is NONE is that one."
    private static void defaults() {
        MinimalTables x = with("S=aAd;S=aBe;S=aBf;A=c;B=c"); // signs a c d e f, END 5
        int c = stateIn(x, 0, 0, 1);
        due("two do 4, one does 3", x.state(0, c, 3), 4);
        due("NONE is that one", x.action(0, c, 0, true), 4);
        due("END too", x.action(0, c, 5, true), 4);
        due("not without", x.action(0, c, 5, false), NONE);
        due("what is told stays", x.action(0, c, 2, true), 3);
        x.toggle(2);
        c = stateIn(x, 0, 0, 1);
        due("one does each: the lowest", x.state(0, c, 3), 3);
        due("NONE is that one", x.action(0, c, 5, true), 3);
        due("what is told stays", x.action(0, c, 3, true), 4);
        due("SHIFT stays", x.action(0, 0, 0, true), 1000 + x.goesTo(0, 0, 0));
        due("none REDUCES: no DEFAULT", x.state(0, 0, 3), NONE);
        due("none by it", x.action(0, 0, 1, true), NONE);
        MinimalTables y = with("S=Ae;S=aee;A=a");
        int a = stateIn(y, 0, 0);
        due("SHIFT went first: none REDUCES", y.state(0, a, 3), NONE);
        due("STATES with a DEFAULT", y.counts(0, 6), 2);
        y.prefer(1);
        due("REDUCE went first", y.state(0, a, 3), 2);
        due("STATES with a DEFAULT", y.counts(0, 6), 3);
        MinimalTables z = with("S=S;S=a");
        due("ACCEPT went first: none REDUCES", z.state(0, stateIn(z, 0, 100), 3), NONE);
    }

    /** From each NAME of a circle, six times on. */
    private static void circle(String grammar, int first, int names) {
        MinimalTables x = with(grammar); // a, the SIGN 0, stands behind the first NAME of the circle
        int top = x.goesTo(0, 0, 100 + first);
        for (int i = 0; i < names; i++) {
            due("it is SHIFTED at the first", x.bridge(0, 0, first + i, 0), top);
            due("by another SIGN it stays", x.bridge(0, 0, first + i, 1), x.goesTo(0, 0, 100 + first + i));
        }
        x.prefer(0);
        for (int i = 0; i < names; i++) {
            int want = first + Math.floorMod(i - 6, names);
            due("six times on from " + i, x.bridge(0, 0, first + i, 0), x.goesTo(0, 0, 100 + want));
        }
    }

    // "BRIDGE .. reduces a UNIT RULE (IN), 6 times at most"
    private static void bridges() {
        circle("S=Aa;A=A;A=x", 1, 1);
        circle("S=Aa;A=B;B=A;B=x", 1, 2);
        circle("S=Aa;A=B;B=C;C=A;C=x", 1, 3);
        circle("S=Aa;A=B;B=C;C=D;D=A;D=x", 1, 4);
        circle("S=Aa;A=B;B=C;C=D;D=E;E=A;E=x", 1, 5);
        MinimalTables x = with("S=A;A=B;B=C;C=D;D=E;E=x"); // sign x, END
        due("five times, to START", x.bridge(0, 0, 5, 1), x.goesTo(0, 0, 100));
        x.toggle(2);
        due("a UNIT RULE OUT: E is not come to", x.goesTo(0, 0, 105), NONE);
        due("so NONE", x.bridge(0, 0, 5, 1), NONE);
        due("from B over A as before", x.bridge(0, 0, 2, 1), x.goesTo(0, 0, 100));
        due("from A as before", x.bridge(0, 0, 1, 1), x.goesTo(0, 0, 100));
        MinimalTables y = with("S=Aa;A=B;B=bb;A=bB"); // signs a b, END
        due("not over a RULE of two letters", y.bridge(0, stateIn(y, 0, 1), 2, 0), stateIn(y, 0, 1, 102));
        due("over a UNIT RULE", y.bridge(0, 0, 2, 0), stateIn(y, 0, 101));
        due("by END, by which it is not reduced", y.bridge(0, 0, 2, 2), stateIn(y, 0, 102));
        due("behind END", y.bridge(0, 0, 2, 3), NONE);
        due("the NAME behind the last", y.bridge(0, 0, 3, 0), NONE);
        due("the STATE behind the last", y.bridge(0, y.states(0), 2, 0), NONE);
        due("kind 3", y.bridge(3, 0, 2, 0), NONE);
        for (int odd : ODD) {
            due("kind " + odd, y.bridge(odd, 0, 2, 0), NONE);
            due("STATE " + odd, y.bridge(0, odd, 2, 0), NONE);
            due("NAME " + odd, y.bridge(0, 0, odd, 0), NONE);
            due("SIGN " + odd, y.bridge(0, 0, 2, odd), NONE);
        }
        MinimalTables z = with("S=Ab;A=B;B=x;B=xx"); // the DEFAULT does not count
        due("NONE without DEFAULTS: it stays", z.bridge(0, 0, 2, 2), z.goesTo(0, 0, 102));
    }

    // "PATH of a STATE: the fewest letters .. (of several the least by letters' order, the first first)."; "path: the i-th
    // letter .. NONE: no such ones."
    private static void paths() {
        MinimalTables x = with("A=abcdB;B=abcdC;C=abcdD;D=abcdE;E=abcdF;F=abcd"); // one way only, of 24 SIGNS
        int state = 0;
        for (int i = 0; i < 24; i++) {
            state = x.goesTo(0, state, i % 4);
        }
        due("24 letters", x.state(0, state, 5), 24);
        for (int i = 0; i < 24; i++) {
            due("the letter " + i, x.path(0, state, i), i % 4);
        }
        due("none behind", x.path(0, state, 24), NONE);
        due("STATE 0 has none", x.path(0, 0, 0), NONE);
        due("of STATE 0", x.state(0, 0, 5), 0);
        due("the last STATE", x.path(0, x.states(0) - 1, 0), 0);
        due("none behind it", x.path(0, x.states(0), 0), NONE);
        due("kind 3", x.path(3, state, 0), NONE);
        for (int odd : ODD) {
            due("i " + odd, x.path(0, state, odd), NONE);
            due("STATE " + odd, x.path(0, odd, 0), NONE);
            due("kind " + odd, x.path(odd, state, 0), NONE);
        }
        MinimalTables y = with("S=bAx;S=aAx;S=Tc;A=c;T=ccccA"); // signs a b c x
        int c = stateIn(y, 2, 0, 2);
        due("one STATE behind a and behind b", stateIn(y, 2, 1, 2), c);
        due("two letters", y.state(2, c, 5), 2);
        due("the least first: a", y.path(2, c, 0), 0);
        MinimalTables z = with("S=Tb;S=aT;T=c"); // by a SIGN ahead of a NAME, though the NAME is told first
        due("c alone", z.path(2, stateIn(z, 2, 2), 0), 2);
        due("T by itself", z.path(2, stateIn(z, 2, 101), 0), 101);
        due("a, T", z.path(2, stateIn(z, 2, 0, 101), 1), 101);
    }

    // "SPLIT: how many CORES (of KERNELS) have more than one STATE. MOST: the most STATES of one CORE."
    private static void splitCores() {
        MinimalTables x = with("S=a");
        for (int kind = 0; kind < 3; kind++) {
            due("none", x.counts(kind, 2), 0);
            due("one each", x.counts(kind, 3), 1);
        }
        MinimalTables y = with("S=aTa;S=bTb;S=cTc;T=t"); // t behind a, b, c
        due("one CORE has three", y.counts(0, 2), 1);
        due("three", y.counts(0, 3), 3);
        due("JOINED has none", y.counts(2, 2), 0);
        due("nor WEAK", y.counts(1, 3), 1);
        y.toggle(2);
        due("two are more than one", y.counts(0, 2), 1);
        due("two", y.counts(0, 3), 2);
        y.toggle(1);
        due("one is not", y.counts(0, 2), 0);
        due("one", y.counts(0, 3), 1);
    }

    public static void main(String[] args) {
        lookOfNone();
        closureGoesOn();
        looksInBounds();
        states200();
        noSuchStates();
        lettersOfGoesTo();
        numberedAnew();
        compatible();
        goneThroughAgain();
        queueOfWeak();
        countsOfStates();
        conflictsOfThree();
        conflicts();
        defaults();
        bridges();
        paths();
        splitCores();
        tellAll();
    }
}
