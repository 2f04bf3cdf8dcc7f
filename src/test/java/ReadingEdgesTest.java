/** The edges of READING, EXPECTS, MENDS, TREE and SORTS. Each method holds one sentence. */
public final class ReadingEdgesTest extends Answers {
    private static final int WELL = 1;
    private static final int ERRS = 0;
    private static final int LOST = 2;
    private static final int[] ODD = {-1, -2, 100, 1000, Integer.MIN_VALUE, Integer.MAX_VALUE};

    private static String a(int times) {
        return "a".repeat(times);
    }

    /** By each AUTOMATON: how it ends, STEPS, READ, how many REDUCED. */
    private static void reads(String grammar, String sentence, int mode, int... want) {
        for (int kind = 0; kind < 3; kind++) {
            MinimalTables x = with(grammar, sentence);
            for (int what = 0; what < 4; what++) {
                due(grammar + " " + sentence + ": reads(" + kind + ", 0, " + mode + ", " + what + ")",
                    x.reads(kind, 0, mode, what), want[what]);
            }
        }
    }

    // "With 300 ACTIONS done and one more told .. it is LOST": ACCEPT, REDUCE and SHIFT as the 300th and as the 301st.
    private static void actions300() {
        // thirteen ACTIONS a SIGN
        reads("S=SA;S=A;A=BBBBC;C=BBBBD;D=a;B=", a(23), 0, WELL, 300, 23, 276);
        reads("S=SA;S=;A=BBBBC;C=BBBBD;D=a;B=", a(23), 0, LOST, 300, 23, 277);
        // sixteen a SIGN: the nineteenth is READ by the 300th, and then one more is told
        reads("S=SA;S=A;A=BBBBC;C=BBBBD;D=BBBa;B=", a(18), 0, WELL, 289, 18, 270);
        reads("S=SA;S=A;A=BBBBC;C=BBBBD;D=BBBa;B=", a(19), 0, LOST, 300, 19, 281);
        // one more ahead: the nineteenth would be READ by the 301st
        reads("S=SA;S=;A=BBBBC;C=BBBBD;D=BBBa;B=", a(19), 0, LOST, 300, 18, 282);
        // the 300th is a SHIFT, and no ACTION is told then: it is not LOST
        reads("S=SA;S=A;A=BBBBC;C=BBBBD;D=BBBa;D=BBBcd;B=", a(18) + "c", 0, ERRS, 300, 19, 281);
        // the 300th is a REDUCE (by a DEFAULT), and no ACTION is told then; or one more is
        reads("S=SA;S=;A=BBBBC;C=BBBBD;D=BBBa;B=", a(18) + "z", 1, ERRS, 300, 18, 282);
        reads("S=SA;S=;A=BBBBC;C=BBBBD;D=BBBBa;B=", a(17) + "z", 1, LOST, 300, 17, 283);
        for (int mode = 0; mode < 3; mode++) {
            reads("S=SA;S=;A=BBBBC;C=BBBBD;D=a;B=", a(23), mode, LOST, 300, 23, 277);
        }
    }

    // "ACTIONS done: SHIFT, REDUCE; ACCEPT is one", and what is told when nothing is done.
    private static void steps() {
        reads("S=", "", 0, WELL, 2, 0, 1);
        reads("S=a", "a", 0, WELL, 3, 1, 1);
        reads("S=a", "", 0, ERRS, 0, 0, 0);
        reads("S=a", "z", 0, ERRS, 0, 0, 0);
        reads("S=a", "aa", 0, ERRS, 1, 1, 0);
        reads("S=a", "aa", 1, ERRS, 2, 1, 1);
        reads("S=a;S=aaaaa", a(24), 0, ERRS, 5, 5, 0);
        reads("A=aaaaB;B=aaaaC;C=aaaaD;D=aaaaE;E=aaaaF;F=aaaa", a(24), 0, WELL, 31, 24, 6);
        reads("A=aaaaB;B=aaaaC;C=aaaaD;D=aaaaE;E=aaaaF;F=aaaaa", a(24), 0, ERRS, 24, 24, 0);
    }

    // "or with 100 STATES in the row and one more to come (by a SHIFT, by a REDUCE when as many as it takes are gone; that
    // ACTION is a STEP, its RULE REDUCED, its SIGN not READ), it is LOST."
    private static void row100() {
        // behind nineteen times EEEEa there are 96
        reads("S=EEEEB;S=EEEc;B=aS;B=b;E=", a(19) + "c", 0, WELL, 139, 20, 118);
        reads("S=EEEEB;S=EEEEc;B=aS;B=b;E=", a(19) + "c", 0, LOST, 100, 19, 80);
        reads("S=EEEEB;S=EEED;B=aS;B=b;E=;D=", a(19), 0, WELL, 139, 19, 119);
        reads("S=EEEEB;S=EEEED;B=aS;B=b;E=;D=", a(19), 0, LOST, 100, 19, 81);
        // a REDUCE of one letter with 100 in the row
        reads("S=EEEEB;S=EEEF;B=aS;B=b;E=;F=c", a(19) + "c", 0, WELL, 140, 20, 119);
        reads("S=EEEEB;S=EEEEF;B=aS;B=b;E=;F=c", a(19) + "c", 0, LOST, 100, 19, 80);
        for (int mode = 1; mode < 3; mode++) {
            reads("S=EEEEB;S=EEED;B=aS;B=b;E=;D=", a(19), mode, WELL, 139, 19, 119);
            reads("S=EEEEB;S=EEEED;B=aS;B=b;E=;D=", a(19), mode, LOST, 100, 19, 81);
        }
        MinimalTables x = with("S=EEEEB;S=EEEED;B=aS;B=b;E=;D=", a(19));
        due("the RULE that had no room is REDUCED", x.reduced(0, 0, 0, 80), 5);
        due("none behind it", x.reduced(0, 0, 0, 81), NONE);
        due("it has a TREE", x.tree(0, 0, 80, 2), 1);
        due("of no SIGN", x.tree(0, 0, 80, 0), 0);
        due("behind nineteen", x.tree(0, 0, 80, 1), 19);
    }

    // "a SIGN that the GRAMMAR has not: NONE, in MODE 1 the DEFAULT of that STATE"
    private static void strangeSigns() {
        String sums = "E=EpT;E=T;T=i"; // signs i p
        reads(sums, "iz", 0, ERRS, 1, 1, 0);
        reads(sums, "iz", 1, ERRS, 3, 1, 2);
        reads(sums, "iz", 2, ERRS, 1, 1, 0);
        reads(sums, "z", 1, ERRS, 0, 0, 0);
        reads(sums, "ipiz", 1, ERRS, 7, 3, 4);
        reads(sums, "i", 1, WELL, 4, 1, 2);
        // a SIGN that no RULE that is IN has is still a SIGN of the GRAMMAR
        MinimalTables x = with("S=a;S=b", "b");
        x.toggle(1);
        due("its number", x.sign(0, 0), 1);
        due("it ERRS", x.reads(0, 0, 0, 0), ERRS);
        due("EXPECTS a", x.expects(0, 0), 1);
        due("MENDS: a in its place", x.mends(0, 0), 1);
        due("numbers are those of the GRAMMAR as it is now", with("S=b", "ab").sign(0, 1), 0);
        due("strange", with("S=b", "ab").sign(0, 0), 99);
    }

    // "in MODE 2: the BRIDGE of it by that NAME and the next SIGN or END"
    private static void bridged() {
        String chain = "S=A;A=B;B=C;C=D;D=E;E=x";
        reads(chain, "x", 0, WELL, 8, 1, 6);
        reads(chain, "x", 2, WELL, 3, 1, 1);
        reads("S=Aa;A=B;B=C;C=D;D=E;E=x", "xa", 2, WELL, 5, 2, 2);
        reads("S=Aa;A=B;B=C;C=D;D=E;E=x", "x", 2, ERRS, 1, 1, 0);
    }

    private static void expects(String what, String grammar, String sentence, int want) {
        for (int kind = 0; kind < 3; kind++) {
            due(what + " by " + kind, with(grammar, sentence).expects(kind, 0), want);
        }
    }

    // "EXPECTS (MODE 0; if it ERRS): from the row of STATES as it was when the last SIGN was READ (at first: 0 alone, with
    // 300 ACTIONS anew): SIGNS and END (bits) by which, were that the next one, it would be READ or ACCEPTED."
    private static void expecting() {
        expects("at first", "S=ab;S=ba", "", 3);
        expects("at first, by a strange SIGN", "S=ab;S=ba", "z", 3);
        expects("at first, END", "S=a;S=", "z", 3);
        expects("END alone", "S=", "z", 1);
        expects("END alone, behind all", "S=ab", "abz", 4);
        expects("a SIGN alone", "S=ab", "a", 2);
        expects("of eight the last", "S=abcdh;S=efg", "abcd", 128);
        expects("it ends well", "S=ab", "ab", NONE);
        expects("LOST", "S=ESa;E=;S=", "a", NONE);
        expects("no word at all", "S=aS", "aaa", 1);
        expects("none at all", "S=Sa", "a", 0);
        // what was reduced behind the last SIGN READ is taken back: A=a, by b, hinders nothing
        expects("as it was when READ", "S=Ab;S=ac;A=a", "abc", 8);
        expects("as it was when READ", "S=Ab;S=ac;A=a", "aa", 6);
        // 299 reductions, and SHIFT as the 300th; then as the 301st
        String rest = ";S=aAEE;A=BEEEE;B=DEEEE;D=SE;D=;E=";
        expects("READ by the 300th", "T=Sc" + rest, a(20) + "z", 3);
        expects("not by the 301st", "T=SEc" + rest, a(20) + "z", 1);
        expects("one less is far enough", "T=SEc" + rest, a(19) + "z", 3);
        // 299 reductions, and ACCEPT
        String deep = ";A=BEEEE;B=CEEEE;C=DEEEE;D=SE;D=;E=";
        expects("ACCEPTED by the 300th", "S=aAEE" + deep, a(15) + "z", 3);
        expects("not by more", "S=aAEEE" + deep, a(15) + "z", 1);
        // 91 STATES in the row leave room for EEEE and one SIGN, 96 do not
        expects("room for both", "S=EEEEB;B=aS;B=b;E=", a(18) + "z", 3);
        expects("room for none", "S=EEEEB;B=aS;B=b;E=", a(19) + "z", 0);
        expects("room for c", "S=EEEEB;S=EEEc;B=aS;B=b;E=", a(19) + "z", 4);
    }

    private static void mends(String what, String grammar, String sentence, int want) {
        for (int kind = 0; kind < 3; kind++) {
            due(what + " by " + kind, with(grammar, sentence).mends(kind, 0), want);
        }
    }

    // "MENDS (MODE 0; if it does not end well): the first single change by which it does: by places from 0 on: that SIGN
    // left out; another SIGN of the GRAMMAR in its place (rising); such a SIGN put in ahead of it (rising ..)"
    private static void mending() {
        mends("it ends well", "S=a", "a", HIDDEN);
        mends("nothing ends well", "S=", "", HIDDEN);
        mends("left out goes first", "S=;S=a;S=az", "b", 0);
        mends("then another in its place", "S=b;S=ba;S=c", "a", 2);
        mends("rising", "S=c;S=b", "a", 1);
        mends("the second SIGN in its place", "S=bb;S=ba", "aa", 2);
        mends("then put in ahead", "S=bca", "ca", 21);
        mends("put in ahead: the SIGN that is there", "S=aab", "ab", 20);
        mends("put in ahead: the last of eight", "S=ha;S=bcdef;S=ghh", "a", 27);
        mends("in its place: the last of eight", "S=hah;S=bcdef;S=ghh", "aah", 8);
        mends("place 0 ahead of place 1", "S=ab;S=bb;S=ac", "cb", 1);
        mends("left out at place 1", "S=a", "ab", 100);
        mends("in its place at place 1", "S=ab", "aa", 102);
        mends("put in at place 1", "S=abc", "ac", 121);
        mends("behind the last", "S=ab", "a", 121);
        mends("behind the last, of nothing", "S=b;S=a", "", 20);
        mends("behind the last, of nothing, the second", "S=b;S=aa", "", 21);
        mends("a strange one left out", "S=a", "az", 100);
        mends("a strange one, another in its place", "S=ab", "az", 102);
        mends("two strange ones", "S=ab", "azz", NONE);
        mends("by none", "S=aaa", "", NONE);
        mends("no SIGN of the GRAMMAR at all: left out", "S=", "z", 0);
        mends("no word at all", "S=aS", "a", NONE);
        mends("LOST does not end well", "S=ESa;E=;S=", "a", 0);
    }

    // "(.. not, if there are 24 then); behind the last SIGN only put in"
    private static void mendingOf24() {
        String chain = "A=aaaaB;B=aaaaC;C=aaaaD;D=aaaaE;E=aaaaF;";
        mends("24: the last left out", chain + "F=aaa", a(23) + "z", 2300);
        mends("24: another in place of the last", chain + "F=aaab", a(24), 2302);
        mends("24: none put in behind", chain + "F=aaaab", a(24), NONE);
        mends("24: none put in ahead", "A=baaaB;B=aaaaC;C=aaaaD;D=aaaaE;E=aaaaF;F=aaaaa", a(24), NONE);
        mends("24: none put in ahead, none falls off behind", "A=bcaaB;" + chain.substring(8) + "F=aaaa", "c" + a(23), NONE);
        mends("23: put in ahead of c", "A=bcaaB;" + chain.substring(8) + "F=aaaa", "c" + a(22), 21);
        mends("23: put in behind", chain + "F=aaab", a(23), 2321);
        mends("23: put in ahead", "A=baaaB;B=aaaaC;C=aaaaD;D=aaaaE;E=aaaaF;F=aaaa", a(23), 21);
        mends("23: 25 would be needed", chain + "F=aaaaa", a(23), NONE);
    }

    // "TREE (MODE 0): each RULE REDUCED with what its letters stand for: how many SIGNS are below it, how many were READ
    // ahead of these, how HIGH it is (1, and the most of those NAMES' below it)."
    private static void trees() {
        MinimalTables x = with("S=EaFE;E=;F=G;G=bE;H=", "ab"); // E, a, E (in G), G, F, E, S
        int[][] due = {{0, 0, 1}, {0, 2, 1}, {1, 1, 2}, {1, 1, 3}, {0, 2, 1}, {2, 0, 4}};
        int[] rules = {1, 1, 3, 2, 1, 0};
        for (int kind = 0; kind < 3; kind++) {
            for (int i = 0; i < 6; i++) {
                due("the RULE", x.reduced(kind, 0, 0, i), rules[i]);
                for (int what = 0; what < 3; what++) {
                    due("tree(" + kind + ", 0, " + i + ", " + what + ")", x.tree(kind, 0, i, what), due[i][what]);
                }
            }
            due("none behind", x.tree(kind, 0, 6, 0), NONE);
            due("none REDUCED behind", x.reduced(kind, 0, 0, 6), NONE);
            due("the what behind", x.tree(kind, 0, 5, 3), NONE);
        }
        String chain = "A=aaaaB;B=aaaaC;C=aaaaD;D=aaaaE;E=aaaaF;F=aaaa";
        MinimalTables y = with(chain, a(24));
        for (int i = 0; i < 6; i++) {
            due("SIGNS below", y.tree(0, 0, i, 0), 4 * (i + 1));
            due("ahead", y.tree(0, 0, i, 1), 20 - 4 * i);
            due("HIGH", y.tree(0, 0, i, 2), i + 1);
        }
        MinimalTables u = with("S=Aa;A=B;B=A;B=x", "xa");
        u.prefer(0);
        due("299 RULES", u.reads(0, 0, 0, 3), 299);
        due("the last is 299 HIGH", u.tree(0, 0, 298, 2), 299);
        due("none behind", u.tree(0, 0, 299, 2), NONE);
        due("the last", u.reduced(0, 0, 0, 298), 2);
    }

    // "NONE: no such SENTENCE, AUTOMATON, MODE, what"
    private static void noSuchOnes() {
        MinimalTables x = with("S=ab", "ab", "a");
        due("the last SENTENCE", x.reads(0, 1, 0, 0), ERRS);
        due("the one behind", x.reads(0, 2, 0, 0), NONE);
        due("the last AUTOMATON", x.reads(2, 0, 0, 0), WELL);
        due("the one behind", x.reads(3, 0, 0, 0), NONE);
        due("the last MODE", x.reads(0, 0, 2, 0), WELL);
        due("the one behind", x.reads(0, 0, 3, 0), NONE);
        due("the last what", x.reads(0, 0, 0, 3), 1);
        due("the one behind", x.reads(0, 0, 0, 4), NONE);
        due("the last RULE REDUCED", x.reduced(0, 0, 2, 0), 0);
        due("the one behind", x.reduced(0, 0, 2, 1), NONE);
        due("of MODE 3", x.reduced(0, 0, 3, 0), NONE);
        due("of SENTENCE 2", x.reduced(0, 2, 0, 0), NONE);
        due("of AUTOMATON 3", x.reduced(3, 0, 0, 0), NONE);
        due("EXPECTS of the last", x.expects(2, 1), 2);
        due("the one behind", x.expects(2, 2), NONE);
        due("of AUTOMATON 3", x.expects(3, 1), NONE);
        due("MENDS of the last", x.mends(2, 1), 121);
        due("the one behind", x.mends(2, 2), NONE);
        due("of AUTOMATON 3", x.mends(3, 1), NONE);
        due("of AUTOMATON 3, though it would end well", x.mends(3, 0), NONE);
        due("TREE of SENTENCE 2", x.tree(0, 2, 0, 0), NONE);
        due("TREE of AUTOMATON 3", x.tree(3, 0, 0, 0), NONE);
        for (int odd : ODD) {
            due("reads, kind " + odd, x.reads(odd, 0, 0, 0), NONE);
            due("reads, SENTENCE " + odd, x.reads(0, odd, 0, 0), NONE);
            due("reads, MODE " + odd, x.reads(0, 0, odd, 0), NONE);
            due("reads, what " + odd, x.reads(0, 0, 0, odd), NONE);
            due("reduced, kind " + odd, x.reduced(odd, 0, 0, 0), NONE);
            due("reduced, SENTENCE " + odd, x.reduced(0, odd, 0, 0), NONE);
            due("reduced, MODE " + odd, x.reduced(0, 0, odd, 0), NONE);
            due("reduced, i " + odd, x.reduced(0, 0, 0, odd), NONE);
            due("expects, kind " + odd, x.expects(odd, 1), NONE);
            due("expects, SENTENCE " + odd, x.expects(0, odd), NONE);
            due("mends, kind " + odd, x.mends(odd, 0), NONE);
            due("mends, SENTENCE " + odd, x.mends(0, odd), NONE);
            due("tree, kind " + odd, x.tree(odd, 0, 0, 0), NONE);
            due("tree, SENTENCE " + odd, x.tree(0, odd, 0, 0), NONE);
            due("tree, i " + odd, x.tree(0, 0, odd, 0), NONE);
            due("tree, what " + odd, x.tree(0, 0, 0, odd), NONE);
        }
        due("none is there", with("S=a").reads(0, 0, 0, 0), NONE);
    }

    private static void sorts(String what, String grammar, int want) {
        due("SORTS, " + what, with(grammar).sorts(), want);
    }

    // "SORTS (bits): 1, if for any two RULES of one NAME that are IN what SELECTS them has nothing in common ..; 2, if ..;
    // 4, 8, 16, if JOINED, WEAK, PLAIN are there and have no CONFLICT."
    private static void sorting() {
        sorts("one RULE", "S=", 31);
        sorts("a SIGN each", "S=a;S=b", 31);
        sorts("the same SIGN", "S=ab;S=ac", 30);
        sorts("the same RULE twice", "S=a;S=a", 0);
        sorts("END and a SIGN", "S=a;S=", 31);
        sorts("nothing, and what follows", "S=Ab;A=Aa;A=", 30);
        sorts("nothing, and what follows: SHIFT and REDUCE", "S=Aa;A=a;A=", 0);
        sorts("nothing twice", "S=;S=", 0);
        sorts("nothing twice, and nothing follows", "S=a;T=;T=", 31);
        sorts("nothing begins either", "S=A;S=A;A=Ab", 1);
        sorts("two NAMES that begin alike", "S=A;T=A;A=a", 31);
        sorts("ACCEPT and REDUCE", "S=S;S=a", 0);
        sorts("not by FOLLOW", "S=LeR;S=R;L=sR;L=i;R=L", 28);
        sorts("not by JOINED", "S=aAd;S=bBd;S=aBe;S=bAe;A=c;B=c", 24);
        sorts("selected, not by FOLLOW", "S=AaAb;S=BbBa;A=;B=", 29);
        sorts("none", "S=iSeS;S=iS;S=a", 0);
        sorts("PLAIN is not there, the others are well", "A=fBAAf;B=dAA;B=bBdc;A=bBB;A=aBb;A=cAeAd;A=dBc", 15);
        sorts("PLAIN is not there, JOINED has CONFLICTS", "A=aCC;B=aCC;C=ebBba;C=AAA;B=aCBbA;B=cCAAd;C=eAAAC;B=ac;C=eBe;C=ABddC;"
            + "C=AAe", 8);
        MinimalTables x = with("S=a;S=a");
        x.toggle(1);
        due("of RULES that are IN", x.sorts(), 31);
    }

    public static void main(String[] args) {
        actions300();
        steps();
        row100();
        strangeSigns();
        bridged();
        expecting();
        mending();
        mendingOf24();
        trees();
        noSuchOnes();
        sorting();
        tellAll();
    }
}
