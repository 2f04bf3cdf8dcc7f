/** The edges of the terms: bounds of the TAPE, of a GRAMMAR, of SENTENCES and of FAULT. Each method holds one sentence. */
public final class TextEdgesTest extends Answers {
    private static final String FIFTEEN = "S=;".repeat(15);
    private static final String A24 = "a".repeat(24);

    /** The FAULT, and that the TEXT is taken just if there is none; if not, the TAPE stays. */
    private static void fault(int sort, String text, int want) {
        String what = (sort == 0 ? "GRAMMAR '" : "SENTENCE '") + text + "': ";
        MinimalTables x = taped(text);
        due(what + "fault", x.fault(sort), want);
        int rules = 1 + (int) text.chars().filter(c -> c == ';').count();
        due(what + "text", x.text(sort), want != NONE ? NONE : sort == 0 ? rules : 0);
        due(what + "the TAPE then", x.count(4), want != NONE ? text.length() : 0);
        due(what + "RULES then", x.count(0), want == NONE && sort == 0 ? rules : 0);
        due(what + "SENTENCES then", x.count(3), want == NONE && sort == 1 ? 1 : 0);
    }

    private static void grammar(String text, int want) {
        fault(0, text, want);
    }

    private static void sentence(String text, int want) {
        fault(1, text, want);
    }

    // "feed: Twenty bytes more (of each number the highest first; bytes of 0 are left out). NONE: more than 240."
    private static void tapeOf240() {
        MinimalTables x = new MinimalTables();
        due("no byte", x.feed(0, 0, 0, 0, 0), 0);
        due("one byte, the lowest of the last", x.feed(0, 0, 0, 0, 1), 1);
        due("one byte, the highest of the first", x.feed(0xFF000000, 0, 0, 0, 0), 2);
        due("bytes of 0 between", x.feed(0x00010001, 0x01000100, 0, 0x00FF0000, 0), 7);
        x.end(0);
        for (int i = 1; i <= 12; i++) {
            due("twenty more", x.feed(0x20202020, 0x20202020, 0x20202020, 0x20202020, 0x20202020), 20 * i);
        }
        due("240, and no byte more", x.feed(0, 0, 0, 0, 0), 240);
        for (int place = 0; place < 5; place++) {
            for (int shift = 0; shift < 32; shift += 8) {
                int[] n = new int[5];
                n[place] = 0x80 << shift;
                due("the 241st byte", x.feed(n[0], n[1], n[2], n[3], n[4]), NONE);
            }
        }
        due("240 still", x.count(4), 240);
        due("240 blanks are a SENTENCE", x.fault(1), NONE);
        x.end(238);
        due("three where there is room for two", x.feed(0x61626300, 0, 0, 0, 0), NONE);
        due("none of the three came", x.count(4), 238);
        due("two", x.feed(0, 0x00620061, 0, 0, 0), 240);
        due("taken", x.text(1), 0);
        Grammars.feed(x, "S=abc");
        x.text(0);
        due("two SIGNS", x.sign(0, NONE), 2);
        due("b first", x.sign(0, 0), 1);
        due("then a", x.sign(0, 1), 0);
    }

    // "The order: of each number the highest first", over all five numbers.
    private static void orderOfBytes() {
        MinimalTables x = new MinimalTables();
        x.feed(0x61626364, 0x65666768, 0x696A6B6C, 0x6D6E6F70, 0x71727374);
        x.text(1);
        String[] grammars = {"S=abcde;S=fgh", "S=ijklm;S=nop", "S=qrst"};
        for (int part = 0; part < 3; part++) {
            Grammars.feed(x, grammars[part]);
            x.text(0);
            for (int i = 0; i < 20; i++) {
                due("byte " + i, x.sign(0, i), i / 8 == part ? i % 8 : 99);
            }
        }
    }

    // "end: The TAPE has its first n bytes alone. False: n."
    private static void endOfTape() {
        MinimalTables x = new MinimalTables();
        due("nothing, n 0", x.end(0), true);
        due("nothing, n 1", x.end(1), false);
        due("nothing, n -1", x.end(-1), false);
        Grammars.feed(x, " ".repeat(239) + "=");
        due("n 241", x.end(241), false);
        due("n most", x.end(Integer.MAX_VALUE), false);
        due("n least", x.end(Integer.MIN_VALUE), false);
        due("240 still", x.count(4), 240);
        due("n 240", x.end(240), true);
        due("the last is there", x.fault(1), 239);
        due("n 239", x.end(239), true);
        due("the last is gone", x.fault(1), NONE);
        due("n 240 then", x.end(240), false);
        due("239 still", x.count(4), 239);
    }

    // "RULES with ; between, 1 to 16"; "a 17th RULE is wrong at the ; ahead of it"
    private static void rules1To16() {
        grammar("", 0);
        for (int rules = 1; rules <= 16; rules++) {
            grammar("S=;".repeat(rules - 1) + "S=", NONE);
        }
        grammar(FIFTEEN + "S=;S=", 47);
        grammar(FIFTEEN + "S=;", 47);
        grammar(FIFTEEN + "S=a ;S=a", 49);
        grammar("S=abcde;".repeat(15) + "S=abcde", NONE);
        grammar("S=abcde;".repeat(16) + "S=abcde", 127);
        grammar(FIFTEEN + "S", 46);
        grammar(FIFTEEN, 45);
        MinimalTables x = with(FIFTEEN + "A=ab");
        due("the 16th RULE", x.rule(15, 1), 2);
        due("its second letter", x.letter(15, 1), 1);
        due("no 17th", ruleThrows(x, 16, 0), true);
        due("no letter of a 17th", x.letter(16, 0), NONE);
    }

    // "a NAME (A .. Z), =, then .. letters, each a NAME or a SIGN (a .. z)": each byte at each place.
    private static void eachByte() {
        for (int b = 1; b < 256; b++) {
            char c = (char) b;
            boolean name = c >= 'A' && c <= 'Z';
            boolean sign = c >= 'a' && c <= 'z';
            grammar(c + "=", name ? NONE : c == ' ' ? 1 : 0);
            grammar("S" + c, c == '=' ? NONE : c == ' ' ? 2 : 1);
            grammar("S=" + c, sign || c == 'S' || c == ' ' ? NONE : name || c == ';' ? 3 : 2);
            grammar("S=;" + c, name || c == ' ' ? 4 : 3);
            grammar("S=a" + c, sign || c == 'S' || c == ' ' ? NONE : name || c == ';' ? 4 : 3);
            sentence("" + c, sign || c == ' ' ? NONE : 0);
            sentence("a" + c + "z", sign || c == ' ' ? NONE : 1);
        }
    }

    // "0 to 5 letters"; "a sixth letter of a RULE .. at it"
    private static void letters0To5() {
        for (int letters = 0; letters <= 5; letters++) {
            grammar("S=" + "a".repeat(letters), NONE);
            grammar("S=" + "S".repeat(letters), NONE);
            due("letters", with("S=" + "aS".repeat(3).substring(0, letters)).rule(0, 1), letters);
        }
        grammar("S=aaaaaa", 7);
        grammar("S=SSSSSS", 7);
        grammar("S=aaaaaS;S=", 7);
        grammar("S=aaaaa;S=aaaaa", NONE);
        grammar("S=aaaaa;S=aaaaaa", 15);
        grammar("S= a a a a a ", NONE);
        grammar("S= a a a a a a", 13);
        grammar("S=abcde;S=fghabi", 15);
        grammar("S=aaaaaa;;", 7);
        MinimalTables x = with("S=abcdS");
        due("the fifth", x.letter(0, 4), 100);
        due("no sixth", x.letter(0, 5), NONE);
    }

    // "At most 6 unlike NAMES"; "a seventh unlike NAME .. at it"
    private static void sixNames() {
        grammar("A=;B=;C=;D=;E=;F=", NONE);
        grammar("A=;B=;C=;D=;E=;F=;G=", 18);
        grammar("A=;B=;C=;D=;E=;F=;A=;F=BCD", NONE);
        grammar("A=;B=;C=;D=;E=;F=G", 17);
        grammar("A=BCDEF;F=;E=;D=;C=;B=", NONE);
        grammar("A=BCDEF;B=G;", 10);
        grammar("A=BCDEF;G=", 8);
        grammar("A=BCDEF; G=", 9);
        grammar("U=VWXYZ;V=;W=;X=;Y=;Z=ZYXWV", NONE);
        MinimalTables x = with("F=;E=;D=;C=;B=;A=");
        due("six", x.count(1), 6);
        due("the sixth", x.name(5, 4), 'A');
        due("no seventh", x.name(6, 4), NONE);
        due("all six are EMPTY", x.names(2), 63);
    }

    // "8 unlike SIGNS"; "a ninth unlike SIGN .. at it"
    private static void eightSigns() {
        grammar("S=abcde;S=fgh", NONE);
        grammar("S=abcde;S=fghi", 13);
        grammar("S=abcde;S=fgh;S=hgfed;S=cba", NONE);
        grammar("S=zyxwv;S=uts;S=r", 16);
        grammar("S=zyxwv;S=uts;S= r", 17);
        MinimalTables x = with("S=zyxwv;S=uts");
        due("eight", x.count(2), 8);
        due("s is the lowest", x.letter(1, 2), 0);
        due("z is the highest", x.letter(0, 0), 7);
    }

    // "NAMES are numbered in the order in which they first stand left of an =": not in that in which they stand at all.
    private static void numbersOfNames() {
        MinimalTables x = with("Z=BAM;M=A;A=;M=B;B=Z");
        int[] due = {'Z', 'M', 'A', 'B'};
        for (int name = 0; name < 4; name++) {
            due("NAME " + name, x.name(name, 4), due[name]);
        }
        due("four", x.count(1), 4);
        due("B", x.letter(0, 0), 103);
        due("A", x.letter(0, 1), 102);
        due("M", x.letter(0, 2), 101);
        due("left of the fourth RULE", x.rule(3, 0), 1);
        due("left of the last", x.rule(4, 0), 3);
    }

    // "SIGNS by the alphabet; END is the number behind the last SIGN", with no SIGN, one, eight.
    private static void numberOfEnd() {
        String[] grammars = {"S=", "S=z", "S=hgfed;S=cba"};
        int[] ends = {0, 1, 8};
        for (int i = 0; i < 3; i++) {
            MinimalTables x = with(grammars[i]);
            due("FOLLOW of START: END", x.name(0, 2), 1 << ends[i]);
            due("END in the first STATE", x.look(0, 0, x.count(0), 0, false), 1 << ends[i]);
            due("ACCEPT by END", x.action(0, x.goesTo(0, 0, 100), ends[i], false), 999);
            due("behind END", x.action(0, 0, ends[i] + 1, false), HIDDEN);
            due("END can prefer", x.prefer(ends[i]), 1);
            due("behind END none can", x.prefer(ends[i] + 1), NONE);
            due("it GOES by no END", x.goesTo(0, 0, ends[i]), NONE);
        }
    }

    // "START is the NAME with the number 0": the one that stands left first, whatever it is called.
    private static void startIsFirst() {
        MinimalTables x = with("B=A;A=a;S=B");
        due("USEFUL: B and A", x.names(1), 3);
        due("END follows B", x.name(0, 2), 2);
        due("nothing follows S", x.name(2, 2), 0);
        due("the WORD", x.word(1, 0), 0);
    }

    // "SENTENCES (4 at most)"
    private static void fourSentences() {
        MinimalTables x = with("S=a;S=b");
        for (int sentence = 0; sentence < 4; sentence++) {
            Grammars.feed(x, "a".repeat(sentence));
            due("SENTENCE " + sentence, x.text(1), sentence);
        }
        due("a fifth of nothing", x.text(1), NONE);
        Grammars.feed(x, "b");
        due("a fifth", x.text(1), NONE);
        due("the TAPE stays", x.count(4), 1);
        due("it is none of the SENTENCE's faults", x.fault(1), NONE);
        due("nor kept", x.keep(1), NONE);
        due("four", x.count(3), 4);
        for (int sentence = 0; sentence < 4; sentence++) {
            due("SENTENCE " + sentence + " is as it was", x.sign(sentence, NONE), sentence);
        }
        due("no such one", x.sign(4, NONE), NONE);
        due("no such one", x.sign(-1, NONE), NONE);
        x.end(0);
        Grammars.feed(x, "S=bb");
        due("a GRAMMAR still comes", x.text(0), 1);
        due("SENTENCES stay", x.count(3), 4);
    }

    // "0 to 24 SIGNS (a .. z, of the GRAMMAR or not)"; "a 25th SIGN of a SENTENCE at it"
    private static void signs0To24() {
        for (int signs = 0; signs <= 24; signs++) {
            sentence(A24.substring(0, signs), NONE);
            due("SIGNS", with("S=", A24.substring(0, signs)).sign(0, NONE), signs);
        }
        sentence(A24 + "a", 24);
        sentence(A24 + " a", 25);
        sentence(A24 + " ", NONE);
        sentence(" a".repeat(24), NONE);
        sentence(" a".repeat(25), 49);
        sentence(A24 + "A", 24);
        sentence(A24 + "aa", 24);
        MinimalTables x = with("S=y", "x".repeat(23) + "y");
        due("the 24th", x.sign(0, 23), 0);
        due("the 23rd is strange", x.sign(0, 22), 99);
        due("no 25th", x.sign(0, 24), NONE);
    }

    // "Blanks (32) may stand between all letters of both": ahead of all and behind all too; they count for nothing.
    private static void blanks() {
        grammar(" ", 1);
        grammar(" ".repeat(240), 240);
        sentence(" ", NONE);
        sentence(" ".repeat(240), NONE);
        String text = "S=aBcde;B=;B=SS";
        for (int at = 0; at <= text.length(); at++) {
            String with = text.substring(0, at) + "  " + text.substring(at);
            grammar(with, NONE);
            MinimalTables x = taped(with);
            due("three RULES", x.text(0), 3);
            due("five letters", x.rule(0, 1), 5);
            due("none", x.rule(1, 1), 0);
            due("two", x.rule(2, 1), 2);
            due("B", x.letter(0, 1), 101);
            due("the first NAME", x.name(0, 4), 'S');
        }
        MinimalTables x = with("S=ab", "  b  a ");
        due("two SIGNS", x.sign(0, NONE), 2);
        due("b", x.sign(0, 0), 1);
        due("a", x.sign(0, 1), 0);
    }

    // "(the length, if it ends too early ..": no TEXT is wrong ahead of its end only because it could go on.
    private static void endsTooEarly() {
        String[] texts = {"S=aAd;S=bBd;A=c;B=", " S = a B ; B = S ; S = ", "A=BCDEF;B=;C=;D=;E=;F=", FIFTEEN + "S=abc"};
        for (String text : texts) {
            grammar(text, NONE);
            for (int n = 0; n < text.length(); n++) {
                String ahead = text.substring(0, n);
                String solid = ahead.replace(" ", "");
                boolean whole = solid.matches("[A-Z]=\\w*(;[A-Z]=\\w*)*");
                for (char c : solid.toCharArray()) {
                    whole &= c < 'A' || c > 'Z' || (";" + solid).indexOf(";" + c + "=") >= 0;
                }
                grammar(ahead, whole ? NONE : n);
            }
        }
        for (int n = 0; n <= 24; n++) {
            sentence(A24.substring(0, n), NONE);
        }
    }

    // ".. with a NAME that never stands left)": at the length, wherever the NAME stands; a wrong byte is told first.
    private static void nameNeverLeft() {
        grammar("S=A", 3);
        grammar("S=A  ", 5);
        grammar("S=A;A=", NONE);
        grammar("S=A;S=;S=;A=", NONE);
        grammar("S=A;S=;S=a", 10);
        grammar("S=;A=B;A=", 9);
        grammar("S=A;;", 4);
        grammar("S=A;a", 4);
        grammar("S=A;", 4);
        grammar("S=A;A", 5);
        grammar(FIFTEEN + "S=A", 48);
        grammar(FIFTEEN + "S=A;A=", 48);
        grammar(FIFTEEN + "A=S", NONE);
        MinimalTables x = taped("S=A");
        x.text(0);
        Grammars.feed(x, ";A=");
        due("what was refused goes on", x.text(0), 2);
    }

    // "fault: .. -2: no such sort."; "text: NONE: .. no such sort"
    private static void sorts() {
        int[] others = {2, -1, -2, Integer.MAX_VALUE, Integer.MIN_VALUE};
        for (int other : others) {
            MinimalTables x = taped("S=");
            due("fault", x.fault(other), -2);
            due("text", x.text(other), NONE);
            due("the TAPE stays", x.count(4), 2);
            due("no GRAMMAR", x.count(0), 0);
            due("no SENTENCE", x.count(3), 0);
        }
        MinimalTables x = new MinimalTables();
        due("nothing as a GRAMMAR", x.fault(0), 0);
        due("nothing as a SENTENCE", x.fault(1), NONE);
    }

    // "text: The TAPE (empty then) is the GRAMMAR (all RULES IN, no SIGN PREFERS; no IMAGE, no ACT; SENTENCES stay)"
    private static void anotherGrammar() {
        MinimalTables x = with("S=a;S=b;S=c;T=dS", "abz");
        x.toggle(0);
        x.toggle(3);
        x.prefer(2);
        x.image();
        Grammars.feed(x, "S=z;;");
        due("a FAULT", x.text(0), NONE);
        due("RULES as they were", x.count(0) * 10 + x.count(5), 42);
        due("ACTS as they were", x.count(6), 3);
        due("the IMAGE as it was", x.back(), 2);
        x.end(3);
        due("taken", x.text(0), 1);
        due("one NAME, one SIGN", x.count(1) * 10 + x.count(2), 11);
        due("one letter", x.rule(0, 1), 1);
        due("z", x.letter(0, 0), 0);
        due("none of the RULE that was there", x.letter(0, 1), NONE);
        due("all IN", x.count(5), 1);
        due("no ACT", x.count(6), 0);
        due("none UNDONE", x.undo(), NONE);
        due("no IMAGE", x.back(), NONE);
        due("none PREFERS", x.prefer(0), 1);
        due("END does not, either", x.prefer(1), 1);
        due("no RULE of the one ahead", ruleThrows(x, 1, 0), true);
        due("no NAME of it", x.name(1, 4), NONE);
        due("the SENTENCE by new numbers", x.sign(0, 0) * 10000 + x.sign(0, 1) * 100 + x.sign(0, 2), 999900);
        Grammars.feed(x, "S=z;S=z");
        x.text(0);
        due("the same again: none PREFERS", x.prefer(0), 1);
    }

    // "A new object: No GRAMMAR."; "sign .. NONE: .. no GRAMMAR": a SENTENCE may be there without one.
    private static void noGrammar() {
        MinimalTables x = new MinimalTables();
        due("a SENTENCE", taped("ab").text(1), 0);
        Grammars.feed(x, "ab");
        x.text(1);
        due("one SENTENCE", x.count(3), 1);
        due("how many SIGNS", x.sign(0, NONE), NONE);
        due("a SIGN", x.sign(0, 0), NONE);
        due("rule", ruleThrows(x, 0, 0), true);
        due("letter", x.letter(0, 0), NONE);
        due("name", x.name(0, 0), NONE);
        due("trees", x.trees(0, 0, 0), NONE);
        for (int what = 0; what < 4; what++) {
            due("names", x.names(what), NONE);
        }
        due("toggle", x.toggle(0), NONE);
        due("prefer", x.prefer(0), NONE);
        due("undo", x.undo(), NONE);
        for (int kind = 0; kind < 3; kind++) {
            due("states", x.states(kind), NONE);
            due("look", x.look(kind, 0, 0, 0, false), NONE);
            due("state", x.state(kind, 0, 0), NONE);
            due("goesTo", x.goesTo(kind, 0, 100), NONE);
            due("action", x.action(kind, 0, 0, false), HIDDEN);
            due("action", x.action(kind, 0, 0, true), HIDDEN);
            due("bridge", x.bridge(kind, 0, 0, 0), NONE);
            due("counts", x.counts(kind, 0), NONE);
            due("path", x.path(kind, 0, 0), NONE);
            due("reads", x.reads(kind, 0, 0, 0), NONE);
            due("reduced", x.reduced(kind, 0, 0, 0), NONE);
            due("expects", x.expects(kind, 0), NONE);
            due("mends", x.mends(kind, 0), NONE);
            due("tree", x.tree(kind, 0, 0, 0), NONE);
            due("same", x.same(kind, 2 - kind, 0), NONE);
        }
        due("sorts", x.sorts(), NONE);
        due("word", x.word(0, NONE), NONE);
        due("keep", x.keep(0), NONE);
        due("image", x.image(), NONE);
        due("back", x.back(), NONE);
        due("still one SENTENCE", x.count(3), 1);
    }

    // "count: .. HIDDEN for others."
    private static void counts() {
        MinimalTables x = new MinimalTables();
        for (int what = 0; what <= 6; what++) {
            due("new: count(" + what + ")", x.count(what), 0);
        }
        int[] others = {-1, 7, 8, Integer.MAX_VALUE, Integer.MIN_VALUE};
        for (int other : others) {
            due("count(" + other + ")", x.count(other), HIDDEN);
        }
        MinimalTables y = with("S=aBcde;B=fghi;" + "S=;".repeat(13) + "B=", "a", "b", "c", "d");
        Grammars.feed(y, " ".repeat(240));
        for (int act = 0; act < 41; act++) {
            y.toggle(act % 16);
        }
        int[] due = {16, 2, 8, 4, 240, 7, 40};
        for (int what = 0; what <= 6; what++) {
            due("full: count(" + what + ")", y.count(what), due[what]);
        }
    }

    public static void main(String[] args) {
        tapeOf240();
        orderOfBytes();
        endOfTape();
        rules1To16();
        eachByte();
        letters0To5();
        sixNames();
        eightSigns();
        numbersOfNames();
        numberOfEnd();
        startIsFirst();
        fourSentences();
        signs0To24();
        blanks();
        endsTooEarly();
        nameNeverLeft();
        sorts();
        anotherGrammar();
        noGrammar();
        counts();
        tellAll();
    }
}
