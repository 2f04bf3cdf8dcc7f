import java.util.Random;

/** Texts of grammars and sentences for tests, and how a text is fed. */
final class Grammars {
    /** Each for the sake of something: what, stands behind it. */
    static final String[] KNOWN = {
        "S=aAd;S=bBd;S=aBe;S=bAe;A=c;B=c", // cores must not be joined
        "E=EpT;E=T;T=TmF;T=F;F=lEr;F=i", // unit rules
        "S=iSeS;S=iS;S=a", // a shift and a reduction
        "S=A;A=", // no signs at all
        "S=S;S=a", // a rule that comes to itself: lost by steps
        "S=SS;S=a;S=", // much ambiguity, lost by steps
        "S=ESa;S=;E=", // lost by the row of states
        "S=aSb;S=", // merged with its own next
        "S=AB;A=a;A=;B=b;B=;B=AB", // empty names
        "S=aA;A=Ab", // no word at all
        "S=aA;A=Ab;B=c;A=d;B=AS", // a name not come to
        "S=;S=;S=;S=;S=;S=;S=;S=;S=;S=;S=;S=;S=;S=;S=;S=", // sixteen alike
        "S=SSSSS;S=SSSSS;S=a;S=SSSSS;S=SSSSS", // great kernels
        "S=LeR;S=R;L=sR;L=i;R=L", // by follow not, joined well
        "S=aBa;S=bBb;S=aCb;S=bCa;B=x;C=x;C=y", // another split
        "S=A;A=B;B=C;C=D;D=E;E=x;S=xE;E=S", // a chain of unit rules and a circle
        "S=ABCDE;A=aa;A=;B=bb;B=;C=c;C=;D=d;D=;E=e;E=;E=SA",
        "A=;B=Ccbbc;C=Bdc;A=dAaCb;A=badcA;C=dB;C=bcCca;A=BCAb;A=C", // merging with itself on the way
        "A=e;B=B;B=;B=cbdfB;B=;B=d;A=aAb;A=aB;B=eeAe;A=Bc",
        "S=XYX;X=a;X=b;X=c;X=d;Y=e;Y=f;Y=g;Y=h;X=YX;Y=XY", // many states
        "S=aTb;S=cTd;S=aUd;S=cUb;T=e;T=eT;U=e;U=eU", // splits that go on
        "S=TaU;T=UbT;U=SaS;S=a;T=b;U=c;S=;T=;U=", // more than 200 plain states
        "S=aS;S=bS;S=cS;S=dS;S=eS;S=fS;S=gS;S=hS;S=", // eight signs
        "A=ad;B=cdBbA;A=AbBBa;B=dBdBA;A=BAcAB;B=;B=", // just 200 plain states
        "A=AcAB;B=daA;A=bB;B=Ac;B=bAda;B=;A=aBA;B=dAaAc", // 201
        "A=baaE;B=aa;C=bEaaE;D=aaF;E=bBDE;F=bCCAB;F=abba;C=aABFF;F=bAaAb;F=aCa;F=DFba;C=DaFFb;E=abaBa;B=bCa;"
            + "B=abaaa;A=abFb", // none of the three is there
        "S=Aa;A=B;B=A;B=x", // a circle of unit rules, if a prefers to reduce
        "S=ESa;E=;S=", // lost by the row of states, by reductions
        "S=EEEEB;B=aS;B=b;E=", // lost by the row of states, by a shift
        "S=SA;S=;A=BBBBC;C=BBBBD;D=BBa;B=", // lost by steps
        // weak merging that goes another way, did it not look first at the state it went to up to now
        "A=aCa;B=aaA;C=aB;D=;A=C", "A=BBa;B=bbA;B=b;A=ab;A=bBa;A=aAb", "A=baD;B=aBa;C=Aa;D=bbD;A=bCb;D=C;C=a",
        "A=c;B=Bb;A=cAc;B=Aa;A=ab;B=aB;A=Bb;A=;A=aBcaB",
        // weak merging by looks that cross one way only, or that have something in common in one state already
        "A=BCA;B=a;C=CB;B=BC;C=;C=d;A=cdCAd", "A=BBA;B=a;A=ab;A=ab;B=a;A=a;A=b;A=aB;A=aAb", "A=BAb;B=AaB;B=c;A=b",
        "A=c;B=bA;B=BbA;A=BA;A=b", "A=A;B=;C=d;B=abA;C=AA;B=Acac;A=bCCc",
        // weak merging that leaves states behind, that comes again to a state in the queue, that has several to choose from
        "A=bbAaB;B=ba;B=AAB;B=;B=bB", "A=BB;B=CBC;C=BAbBA;B=c", "A=AAcB;B=a;B=AB", "A=aB;B=Ab;B=c;A=cBAa;A=cA",
        // words that one automaton takes and another does not: of no sign, one, and so on
        "A=BB;B=CcaC;C=BA;C=B;B=;A=A;A=A;C=AA;C=Bbb", "A=aaa;B=aaaC;C=;C=Ba;A=A;B=;B=CC;A=CCB",
        "A=BacBA;B=BA;A=;A=cA;A=aB;B=AA;A=b;B=cba", "A=AA;B=b;A=Aba;B=;A=B;A=bAa;B=;A=bbB", "A=b;B=aBbab;A=;A=bAaA;B=ab",
        "A=bb;B=Ba;B=A;A=;A=bB;A=bc", "A=;B=Ad;B=a;B=aBc;B=;A=dB", "A=;B=;A=bBB;A=Bca;A=Bbb;B=aA",
        "A=aB;B=aaD;C=;D=;D=a;A=B;A=;B=bB;B=bAb;A=", "A=Bc;B=Bc;A=bB;B=aBBBc;B=cc;B=bAa;B=;B=bAc;A=B",
        "A=Bcaa;B=a;C=Ca;B=;C=cBB;B=BC;C=BA;A=b;C=cB;B=b;B=", "A=cB;B=BA;B=BAa;B=;B=cBd;A=;B=dc;A=AA",
        "A=bCbCC;B=b;C=;B=C;A=;C=AAa;B=A", "A=Bc;B=;B=;B=ABa;B=ccB;A=cc;B=;A=bccBa;A=Ab;B=AB",
    };

    /** Text of rules that hold together, most of the time. */
    static String random(Random random) {
        int names = 1 + random.nextInt(6);
        int signs = random.nextInt(9);
        int rules = Math.min(16, Math.max(names, 1 + random.nextInt(16)));
        int namesPart = 20 + random.nextInt(50);
        StringBuilder text = new StringBuilder();
        for (int i = 0; i < rules; i++) {
            text.append(i > 0 ? ";" : "");
            text.append((char) ('A' + (i < names ? i : random.nextInt(names)))).append('=');
            int length = random.nextInt(3) == 0 ? random.nextInt(6) : random.nextInt(4);
            for (int k = 0; k < length; k++) {
                boolean name = signs == 0 || random.nextInt(100) < namesPart;
                text.append((char) (name ? 'A' + random.nextInt(names) : 'a' + random.nextInt(signs)));
            }
        }
        return text.toString();
    }

    static String sentence(Random random) {
        StringBuilder text = new StringBuilder();
        int length = random.nextInt(4) == 0 ? random.nextInt(25) : random.nextInt(8);
        int signs = 1 + random.nextInt(9);
        for (int i = 0; i < length; i++) {
            text.append((char) ('a' + random.nextInt(signs)));
        }
        return text.toString();
    }

    /** Blanks put in, and now and then a byte changed, taken out or put in. */
    static String spoiled(String text, Random random) {
        StringBuilder all = new StringBuilder(text);
        String bytes = "ABCSXabcxyz=; ,[`@{" + (char) 233 + (char) 31;
        for (int k = random.nextInt(3); k > 0; k--) {
            int at = random.nextInt(all.length() + 1);
            char c = bytes.charAt(random.nextInt(bytes.length()));
            int how = random.nextInt(3);
            if (how == 0 || at == all.length()) {
                all.insert(at, c);
            } else if (how == 1) {
                all.setCharAt(at, c);
            } else {
                all.deleteCharAt(at);
            }
        }
        for (int k = random.nextInt(4); k > 0; k--) {
            all.insert(random.nextInt(all.length() + 1), ' ');
        }
        return all.toString();
    }

    /** Five numbers with twenty bytes from there on. */
    static int[] packed(String text, int from) {
        int[] numbers = new int[5];
        for (int i = 0; i < 20 && from + i < text.length(); i++) {
            numbers[i / 4] |= (text.charAt(from + i) & 255) << 24 - 8 * (i % 4);
        }
        return numbers;
    }

    static void feed(MinimalTables x, String text) {
        for (int from = 0; from < text.length(); from += 20) {
            int[] n = packed(text, from);
            x.feed(n[0], n[1], n[2], n[3], n[4]);
        }
    }

    private Grammars() {
    }
}
