import java.math.BigInteger;

/** The edges of what is done by hand, of IMAGES, of SAME and of WORDS. Each method holds one sentence. */
public final class ActEdgesTest extends Answers {
    private static final int[] ODD = {-1, -2, 100, 1000, Integer.MIN_VALUE, Integer.MAX_VALUE};
    private static final String SPLIT = "S=aAd;S=bBd;S=aBe;S=bAe;A=c;B=c";
    /** The first 14 times come to T, which is replaced by the fifteenth. */
    private static final String AHEAD = "S=EEEEF;F=EEEEG;G=EEET;E=;";

    // "toggle: A RULE is taken OUT, or put IN: whether it is IN then (1, 0). NONE: no such one."
    private static void toggles() {
        MinimalTables x = with("S=a;".repeat(15) + "S=b");
        due("the first", x.toggle(0), 0);
        due("the last of 16", x.toggle(15), 0);
        due("the last of 16 IN", x.toggle(15), 1);
        due("the 17th", x.toggle(16), NONE);
        for (int odd : ODD) {
            due("RULE " + odd, x.toggle(odd), NONE);
        }
        due("15 IN", x.count(5), 15);
        due("three ACTS", x.count(6), 3);
        MinimalTables y = with("S=a;S=b");
        due("the last", y.toggle(1), 0);
        due("the OUTER RULE is not taken OUT", y.toggle(2), NONE);
    }

    // "prefer: A SIGN (or END) PREFERS to reduce, or not: whether it does then (1, 0). NONE: no such one."
    private static void prefers() {
        MinimalTables x = with("S=abcde;S=fgh");
        for (int sign = 0; sign <= 8; sign++) {
            due("none does at first: SIGN " + sign, x.prefer(sign), 1);
        }
        due("behind END", x.prefer(9), NONE);
        for (int odd : ODD) {
            due("SIGN " + odd, x.prefer(odd), NONE);
        }
        for (int sign = 0; sign <= 8; sign++) {
            due("not any more: SIGN " + sign, x.prefer(sign), 0);
        }
        due("ACTS", x.count(6), 18);
        MinimalTables y = with("S=");
        due("END alone", y.prefer(0), 1);
        due("behind it", y.prefer(1), NONE);
    }

    // "These are ACTS: the latest 40 can be UNDONE one by one."
    private static void acts40() {
        MinimalTables x = with("S=a;S=b;S=c");
        due("none at first", x.undo(), NONE);
        for (int act = 1; act <= 40; act++) {
            x.toggle(act == 1 ? 2 : 0);
            due("ACTS", x.count(6), act);
        }
        for (int left = 39; left >= 0; left--) {
            due("still can be", x.undo(), left);
        }
        due("the first of 40 is UNDONE", x.rule(2, 2), 1);
        due("all IN", x.count(5), 3);
        due("none is left", x.undo(), NONE);
        MinimalTables y = with("S=a;S=b;S=c");
        y.toggle(2);
        for (int act = 1; act <= 40; act++) {
            y.prefer(1);
        }
        due("40 of 41", y.count(6), 40);
        for (int left = 39; left >= 0; left--) {
            due("still can be", y.undo(), left);
        }
        due("the first of 41 stays", y.rule(2, 2), 0);
        due("none is left", y.undo(), NONE);
        MinimalTables z = with("S=a;S=b;S=c");
        for (int act = 0; act < 41; act++) {
            z.toggle(0);
        }
        due("one UNDONE", z.undo(), 39);
        z.prefer(3);
        due("40 again", z.count(6), 40);
        due("the latest first", z.undo(), 39);
        due("END does not PREFER any more", z.prefer(3), 1);
        MinimalTables w = with("S=a;S=b");
        w.toggle(2);
        w.prefer(3);
        due("what is refused is no ACT", w.count(6), 0);
        w.toggle(1);
        w.undo();
        due("nor is what is UNDONE", w.undo(), NONE);
        due("nor an IMAGE", w.image() + w.count(6), 2);
    }

    // "An IMAGE keeps which RULES are OUT and which SIGNS PREFER to reduce; BACK: they are so again (no ACT can be UNDONE
    // then)."; "image: An IMAGE (instead of the one ahead)"; "back: NONE: no IMAGE of this GRAMMAR."
    private static void images() {
        MinimalTables x = with("S=a;S=b;S=c");
        due("no IMAGE yet", x.back(), NONE);
        x.toggle(0);
        x.prefer(3);
        due("two IN", x.image(), 2);
        due("ACTS stay", x.count(6), 2);
        due("and can be UNDONE", x.undo(), 1);
        due("BACK", x.back(), 2);
        due("no ACT", x.count(6), 0);
        due("none UNDONE", x.undo(), NONE);
        due("END PREFERS again, and now not", x.prefer(3), 0);
        due("an ACT behind BACK", x.undo(), 0);
        x.toggle(0);
        x.toggle(1);
        x.toggle(2);
        due("BACK once more", x.back(), 2);
        due("0 is OUT", x.rule(0, 2), 0);
        due("BACK with nothing changed", x.back(), 2);
        x.toggle(1);
        due("another IMAGE", x.image(), 1);
        x.toggle(0);
        due("instead of the one ahead", x.back(), 1);
        due("1 is OUT", x.rule(1, 2), 0);
        Grammars.feed(x, "S=a;S=b;S=");
        x.text(0);
        due("none of this GRAMMAR", x.back(), NONE);
        due("all IN", x.count(5), 3);
        due("an IMAGE of it", x.image(), 3);
        due("BACK to it", x.back(), 3);
        MinimalTables y = with("S=a");
        y.image();
        y.toggle(0);
        due("a later IMAGE of nothing IN", y.image(), 0);
        y.undo();
        due("BACK to nothing IN", y.back(), 0);
        due("it is OUT", y.rule(0, 2), 0);
        MinimalTables z = with("S=aSb;S=ab", "aabb");
        z.image();
        z.toggle(0);
        due("STATES without", z.states(2), 4);
        due("not read", z.reads(2, 0, 0, 0), 0);
        z.back();
        due("STATES again", z.states(2), 6);
        due("read", z.reads(2, 0, 0, 0), 1);
    }

    // "SAME for m (0 .. 4): the first word (fewer SIGNS first, then by the alphabet; SIGNS of the GRAMMAR) of m SIGNS at
    // most .. as a number to the base 10 of SIGNS' numbers and 1 each, the first the highest (the empty one: 0)."
    private static void same() {
        String[] grammars = {"A=aaa;B=aaaC;C=;C=Ba;A=A;B=;B=CC;A=CCB", "A=;B=;B=BBcAA;A=;A=BA;B=a", SPLIT,
            "A=Bc;B=Bc;A=bB;B=aBBBc;B=cc;B=bAa;B=;B=bAc;A=B"};
        int[] lengths = {0, 1, 3, 4};
        int[] others = {2, 1, 2, 2};
        int[] words = {0, 2, 135, 2331};
        for (int i = 0; i < 4; i++) {
            MinimalTables x = with(grammars[i]);
            for (int m = 0; m <= 4; m++) {
                due("the word of " + lengths[i] + " for m " + m, x.same(0, others[i], m), m < lengths[i] ? NONE : words[i]);
                due("the other way round", x.same(others[i], 0, m), NONE);
                due("by itself", x.same(0, 0, m), NONE);
            }
            due("m 5", x.same(0, others[i], 5), NONE);
            for (int odd : ODD) {
                due("m " + odd, x.same(0, others[i], odd), NONE);
                due("one " + odd, x.same(odd, others[i], 4), NONE);
                due("other " + odd, x.same(0, odd, 4), NONE);
            }
            due("one 3", x.same(3, others[i], 4), NONE);
            due("other 3", x.same(0, 3, 4), NONE);
        }
        // JOINED takes d for A always: fde and gdh are not read; fde goes first, by eight SIGNS
        MinimalTables y = with("S=gBh;S=fAh;S=gAe;S=fBe;A=d;B=d;S=abc");
        due("f d e", y.same(0, 2, 4), 645);
        // and for B always: fdh and gde are not read
        due("f d h", with("S=gBh;S=fAh;S=gAe;S=fBe;B=d;A=d;S=abc").same(0, 2, 4), 648);
        // ad begins words as ac does; of adf and bde the first by the alphabet is told
        due("a d f", with("S=aAe;S=aBf;S=bBe;S=bAf;A=d;B=d;S=acc").same(0, 2, 3), 146);
        due("b d e: a d f is read by both", with("S=aAe;S=aAf;S=bBe;S=bAf;S=cAe;S=cBf;A=d;B=d;S=acc").same(0, 2, 3), 245);
        MinimalTables z = with("S=A;A=");
        due("no SIGNS: the empty word alone, and it is read by both", z.same(0, 2, 4), NONE);
    }

    /** The draws by that seed as the document tells them, of j each, with no help of 64 bits. */
    private static int[] draws(long seed, int j, int times) {
        BigInteger round = BigInteger.ONE.shiftLeft(64);
        BigInteger x = BigInteger.valueOf(seed).mod(round);
        int[] result = new int[times];
        for (int i = 0; i < times; i++) {
            x = x.multiply(new BigInteger("6364136223846793005")).add(new BigInteger("1442695040888963407")).mod(round);
            result[i] = x.shiftRight(33).mod(BigInteger.valueOf(j)).intValue();
        }
        return result;
    }

    private static long seedOf(int zeros, int then) {
        return seedOf(0, zeros, then);
    }

    /** The first seed by which so many draws of 2 tell the one, and the next one the other. */
    private static long seedOf(int one, int times, int then) {
        for (long seed = 0; seed < 1000000; seed++) {
            if (draws(seed, 2, 1)[0] == one) {
                int[] all = draws(seed, 2, times + 1);
                int first = 0;
                while (first < times && all[first] == one) {
                    first++;
                }
                if (first == times && all[times] == then) {
                    return seed;
                }
            }
        }
        throw new IllegalStateException("no such seed");
    }

    // "of the first 12 times by the one a draw of k tells (by numbers); later by that by which the sum of SHORTEST of its
    // letters (a SIGN: 1) is least"
    private static void draws12() {
        MinimalTables x = with("S=aS;S=b");
        for (int zeros = 1; zeros <= 11; zeros++) {
            due("drawn b behind " + zeros, x.word(seedOf(zeros, 1), NONE), zeros + 1);
        }
        long seed = seedOf(13, 0);
        due("the twelfth is drawn, the thirteenth is not", x.word(seed, NONE), 13);
        due("a", x.word(seed, 11), 0);
        due("b", x.word(seed, 12), 1);
        due("none behind", x.word(seed, 13), NONE);
        MinimalTables y = with("S=b;S=aS");
        due("the RULE 0 is least behind twelve", y.word(seedOf(1, 13, 1), NONE), 13);
        due("the twelfth is drawn", y.word(seedOf(1, 11, 0), NONE), 12);
        // one RULE is drawn of, too: so x goes on
        for (long s = 0; s < 40; s++) {
            due("the second draw tells", with("S=T;T=a;T=bb").word(s, NONE), draws(s, 2, 2)[1] + 1);
        }
    }

    // "x, at first the seed, becomes x times 6364136223846793005 and 1442695040888963407 (64 bits, going round); a draw of
    // j: (x shifted right by 33, without sign) modulo j."
    private static void draws64Bits() {
        long[] seeds = {0, 1, -1, 2, -2, 63, 64, 1L << 32, -1L << 32, 1L << 62, Long.MAX_VALUE, Long.MIN_VALUE,
            Long.MAX_VALUE - 1, Long.MIN_VALUE + 1, 0xFFFFFFFFL, 0x7FFFFFFF00000000L, 1442695040888963407L};
        MinimalTables x = with("S=aS;S=bS;S=cS;S=dS;S=eS;S=fS;S=gS;S=gS;S=fS;S=eS;S=dS;S=cS;S=bS;S=aS;S=aaS;S=h");
        for (long seed : seeds) {
            StringBuilder word = new StringBuilder();
            int[] all = draws(seed, 16, 12);
            int times = 0;
            while (times < 12 && all[times] < 15) {
                word.append("abcdefggfedcba2".charAt(all[times]));
                times++;
            }
            String letters = word.toString().replace("2", "aa") + "h";
            due("SIGNS by " + seed, x.word(seed, NONE), letters.length());
            for (int i = 0; i < letters.length(); i++) {
                due("SIGN " + i + " by " + seed, x.word(seed, i), letters.charAt(i) - 'a');
            }
            due("behind, by " + seed, x.word(seed, letters.length()), NONE);
        }
        for (int rules = 1; rules <= 8; rules++) {
            MinimalTables y = with("S=a;S=b;S=c;S=d;S=e;S=f;S=g;S=h".substring(0, 4 * rules - 1));
            for (long seed : seeds) {
                due("a draw of " + rules + " by " + seed, y.word(seed, 0), draws(seed, rules, 1)[0]);
            }
        }
        MinimalTables z = with("S=a;S=b;S=c;S=d");
        z.toggle(1);
        for (long seed : seeds) {
            int drawn = draws(seed, 3, 1)[0];
            due("of three that are IN by " + seed, z.word(seed, 0), drawn == 0 ? 0 : drawn + 1);
        }
    }

    // "is least (of several the lowest; SHORTEST must be told). There is none: no WORD"
    private static void shortestLater() {
        due("the least", with(AHEAD + "T=aa;T=b;T=aT").word(1, 0), 1);
        due("of several the lowest", with(AHEAD + "T=aT;T=b;T=a").word(1, 0), 1);
        due("nothing is less than a SIGN", with(AHEAD + "T=a;T=").word(1, NONE), 0);
        due("a NAME counts by its SHORTEST", with(AHEAD + "T=U;T=b;U=aa").word(1, 0), 1);
        due("SHORTEST is not told: another", with(AHEAD + "T=U;T=aaa;U=Ub").word(1, NONE), 3);
        due("SHORTEST is not told: none", with(AHEAD + "T=U;U=Ub").word(1, NONE), NONE);
        MinimalTables x = with(AHEAD + "T=a;T=b");
        x.toggle(4);
        due("of those that are IN", x.word(1, 0), 1);
        x.toggle(5);
        due("none is IN", x.word(1, NONE), NONE);
        MinimalTables y = with("S=aT;T=b");
        y.toggle(1);
        due("none is IN of the first 12 times", y.word(1, NONE), NONE);
        due("none to keep", y.keep(1), NONE);
        due("a NAME that does not end goes on", with("S=aS").word(1, NONE), NONE);
    }

    // "nor, if there are more than 60 letters in the row"
    private static void letters60() {
        String rest = ";T=UUUU;U=aaa";
        due("60 SIGNS", with("S=TTTTT" + rest).word(1, NONE), 60);
        due("the 60th", with("S=TTTTT" + rest).word(1, 59), 0);
        due("none behind", with("S=TTTTT" + rest).word(1, 60), NONE);
        due("61 SIGNS", with("S=TTTTV" + rest + ";V=UUUUW;W=a").word(1, NONE), NONE);
        due("60 SIGNS, and nothing more behind", with("S=TTTTV" + rest + ";V=WUUUU;W=").word(1, NONE), 60);
        due("60 SIGNS and a NAME", with("S=TTTTV" + rest + ";V=UUUUW;W=").word(1, NONE), NONE);
        due("59 SIGNS and a NAME", with("S=TTTTV" + rest + ";V=UUUXW;X=aa;W=").word(1, NONE), 59);
    }

    // "or NAMES behind 200 times"
    private static void times200() {
        String rest = ";T=UUUU;U=VVVVV;V=W;W=";
        due("199", with("S=TTTTX" + rest + ";X=UVVV").word(1, NONE), 0);
        due("200", with("S=TTTTX" + rest + ";X=UVVVW").word(1, NONE), 0);
        due("201", with("S=TTTTX" + rest + ";X=UVVVV").word(1, NONE), NONE);
        due("198 and a SIGN behind", with("S=TTTTX" + rest + ";X=UVVWa").word(1, NONE), 1);
    }

    // "word: how many SIGNS (i NONE), the i-th one's number. NONE: .. no such one"
    private static void signsOfWords() {
        MinimalTables x = with("S=ba");
        due("how many", x.word(5, NONE), 2);
        due("the first", x.word(5, 0), 1);
        due("the last", x.word(5, 1), 0);
        due("the one behind", x.word(5, 2), NONE);
        int[] odd = {-2, 60, 61, 65, 1000, Integer.MIN_VALUE, Integer.MAX_VALUE};
        for (int i : odd) {
            due("i " + i, x.word(5, i), NONE);
        }
        MinimalTables y = with("S=");
        due("of nothing", y.word(5, NONE), 0);
        due("no first", y.word(5, 0), NONE);
    }

    // "keep: The WORD as a SENTENCE: its number. NONE: there is none, more than 24 SIGNS, there are four SENTENCES"
    private static void keeps() {
        String chain = "A=aaaaB;B=aaaaC;C=aaaaD;D=aaaaE;E=aaaaF;";
        MinimalTables x = with(chain + "F=aaaa");
        due("24", x.keep(1), 0);
        due("all 24", x.sign(0, NONE), 24);
        due("it is read", x.reads(0, 0, 0, 0), 1);
        for (int sentence = 1; sentence < 4; sentence++) {
            due("up to four", x.keep(sentence), sentence);
        }
        due("no fifth", x.keep(1), NONE);
        due("four", x.count(3), 4);
        MinimalTables y = with(chain + "F=aaaaa");
        due("25 are a WORD", y.word(1, NONE), 25);
        due("25 are not kept", y.keep(1), NONE);
        due("no SENTENCE", y.count(3), 0);
        MinimalTables z = with("S=", "a", "b", "c");
        Grammars.feed(z, "abc");
        due("nothing, as the fourth", z.keep(1), 3);
        due("no SIGN", z.sign(3, NONE), 0);
        due("the TAPE stays", z.count(4), 3);
        due("no ACT", z.count(6), 0);
        due("there is none", with("S=S").keep(1), NONE);
        MinimalTables w = with("S=yz");
        w.keep(1);
        Grammars.feed(w, "S=z");
        w.text(0);
        due("y is strange then", w.sign(0, 0), 99);
        due("z is 0 then", w.sign(0, 1), 0);
    }

    public static void main(String[] args) {
        toggles();
        prefers();
        acts40();
        images();
        same();
        draws12();
        draws64Bits();
        shortestLater();
        letters60();
        times200();
        signsOfWords();
        keeps();
        tellAll();
    }
}
