import java.util.Arrays;
import java.util.NoSuchElementException;

/**
 * Tables for reading by look-ahead of one sign: a grammar told as a text, its three automata,
 * and what sentences do by them. The words in capitals are those of the document.
 */
public final class MinimalTables {
    public static final int NONE = -1;
    public static final int HIDDEN = -1000000;

    private static final int NO_SORT = -2;
    private static final int TAPE_ROOM = 240;
    private static final int BLANK = 32;
    private static final int ALPHABET = 26;
    private static final int RULES_MOST = 16;
    private static final int LETTERS_MOST = 5;
    private static final int NAMES_MOST = 6;
    private static final int SIGNS_MOST = 8;
    private static final int SENTENCES_MOST = 4;
    private static final int SENTENCE_ROOM = 24;
    private static final int STRANGE = 99;
    private static final int NAME_CODE = 100;

    /** Letters inside: a SIGN is its number, a NAME its number behind all SIGNS there could be. */
    private static final int FIRST_NAME = SIGNS_MOST;
    private static final int LETTERS = SIGNS_MOST + NAMES_MOST;
    /** SIGNS and END. */
    private static final int ENDINGS = SIGNS_MOST + 1;
    /** An ITEM inside is its RULE times this, and its DOT. */
    private static final int DOTS = LETTERS_MOST + 1;
    private static final int ITEMS = (RULES_MOST + 1) * DOTS;
    /** All ITEMS of a KERNEL but the first STATE's have a letter ahead of the DOT, the OUTER RULE's one among them. */
    private static final int KERNEL_ROOM = RULES_MOST * LETTERS_MOST + 1;
    private static final int LOOK_BITS = (1 << ENDINGS) - 1;
    /** Beside the bits of a FIRST: all the letters are EMPTY. */
    private static final int ALL_EMPTY = 1 << 16;

    private static final int SIZE_MOST = 8;
    private static final int HEIGHT_MOST = 6;
    private static final long TREES_MOST = 1000000000L;

    private static final int KINDS = 3;
    private static final int PLAIN = 0;
    private static final int WEAK = 1;
    private static final int JOINED = 2;
    private static final int STATES_MOST = 200;
    /** Far above what any grammar needs: it only lets loops be seen to end. */
    private static final int TURNS_MOST = 1000000;

    private static final int SHIFT = 1000;
    private static final int ACCEPT = 999;
    private static final int BRIDGE_MOST = 6;

    private static final int MODES = 3;
    private static final int BARE = 0;
    private static final int DEFAULTS = 1;
    private static final int BRIDGED = 2;
    private static final int STEPS_MOST = 300;
    private static final int ROW_MOST = 100;
    private static final int ERRS = 0;
    private static final int WELL = 1;
    private static final int LOST = 2;
    private static final int REDUCES = 3;
    private static final int SHIFTS = 4;

    private static final int SAME_MOST = 4;
    private static final int PUT_IN = 20;
    private static final int PLACE = 100;

    private static final int DRAWS = 12;
    private static final int TIMES_MOST = 200;
    private static final int WORD_ROOM = 60;
    private static final long FACTOR = 6364136223846793005L;
    private static final long ADDEND = 1442695040888963407L;

    private static final int ACTS_MOST = 40;

    private final Tape tape;
    private final Grammar grammar;
    private final Sentences sentences;
    private final Facts facts;
    private final History history;
    private final Builder builder;
    private final Automaton[] automata;
    private final Actions[] actions;
    private final Reading reading;
    private final Draw draw;

    public MinimalTables() {
        tape = new Tape();
        grammar = new Grammar();
        sentences = new Sentences();
        facts = new Facts(grammar);
        history = new History();
        builder = new Builder(grammar);
        automata = new Automaton[KINDS];
        actions = new Actions[KINDS];
        for (int kind = 0; kind < KINDS; kind++) {
            automata[kind] = new Automaton(kind, grammar, facts);
            actions[kind] = new Actions(grammar, facts, automata[kind]);
        }
        reading = new Reading(grammar);
        draw = new Draw(grammar, facts);
    }

    public int feed(int a, int b, int c, int d, int e) {
        int more = Tape.solid(a) + Tape.solid(b) + Tape.solid(c) + Tape.solid(d) + Tape.solid(e);
        if (more > TAPE_ROOM - tape.length) {
            return NONE;
        }
        tape.put(a);
        tape.put(b);
        tape.put(c);
        tape.put(d);
        tape.put(e);
        return tape.length;
    }

    public boolean end(int n) {
        if (n < 0 || n > tape.length) {
            return false;
        }
        tape.length = n;
        return true;
    }

    public int fault(int sort) {
        if (sort == 0) {
            return tape.grammarFault();
        }
        return sort == 1 ? tape.sentenceFault() : NO_SORT;
    }

    public int text(int sort) {
        if (fault(sort) != NONE) {
            return NONE;
        }
        return sort == 0 ? takeGrammar() : takeSentence();
    }

    private int takeGrammar() {
        grammar.load(tape);
        tape.length = 0;
        history.clear();
        rulesChanged();
        return grammar.rules;
    }

    private int takeSentence() {
        if (sentences.count == SENTENCES_MOST) {
            return NONE;
        }
        sentences.open();
        for (int i = 0; i < tape.length; i++) {
            if (tape.bytes[i] != BLANK) {
                sentences.put(tape.bytes[i] - 'a');
            }
        }
        tape.length = 0;
        return sentences.count - 1;
    }

    public int rule(int rule, int what) throws NoSuchElementException {
        if (!isRule(rule) || what < 0 || what > 3) {
            throw new NoSuchElementException("no such RULE, or nothing that is told of it");
        }
        switch (what) {
            case 0:
                return grammar.left[rule];
            case 1:
                return grammar.length[rule];
            case 2:
                return grammar.isIn(rule) ? 1 : 0;
            default:
                return grammar.isUnit(rule) ? 1 : 0;
        }
    }

    private boolean isRule(int rule) {
        return rule >= 0 && rule < grammar.rules;
    }

    public int letter(int rule, int i) {
        if (!isRule(rule) || i < 0 || i >= grammar.length[rule]) {
            return NONE;
        }
        return Grammar.codeOf(grammar.letterAt(rule, i));
    }

    public int sign(int sentence, int i) {
        if (!isSentence(sentence)) {
            return NONE;
        }
        int length = sentences.length[sentence];
        if (i == NONE) {
            return length;
        }
        return i < 0 || i >= length ? NONE : grammar.signNumber[sentences.letterAt(sentence, i)];
    }

    /** Without a GRAMMAR no SENTENCE tells anything. */
    private boolean isSentence(int sentence) {
        return grammar.rules > 0 && sentence >= 0 && sentence < sentences.count;
    }

    public int name(int name, int what) {
        if (!isName(name)) {
            return NONE;
        }
        switch (what) {
            case 0:
                return facts.isEmptyName(name) ? 1 : 0;
            case 1:
                return facts.first[name];
            case 2:
                return facts.follow[name];
            case 3:
                return facts.shortest[name];
            case 4:
                return grammar.nameLetter[name];
            default:
                return NONE;
        }
    }

    private boolean isName(int name) {
        return name >= 0 && name < grammar.names;
    }

    public int trees(int name, int n, int h) {
        if (!isName(name) || n < 0 || n > SIZE_MOST || h < 0 || h > HEIGHT_MOST) {
            return NONE;
        }
        return facts.treesOf(name, n, h);
    }

    public int names(int what) {
        if (grammar.rules == 0) {
            return NONE;
        }
        switch (what) {
            case 0:
                return facts.leftNames;
            case 1:
                return facts.useful;
            case 2:
                return facts.empty;
            case 3:
                return facts.endingNames();
            default:
                return NONE;
        }
    }

    public int toggle(int rule) {
        if (!isRule(rule)) {
            return NONE;
        }
        history.add(rule);
        flip(rule);
        return grammar.isIn(rule) ? 1 : 0;
    }

    public int prefer(int sign) {
        if (!isEnding(sign)) {
            return NONE;
        }
        history.add(RULES_MOST + sign);
        flip(RULES_MOST + sign);
        return grammar.doesPrefer(sign) ? 1 : 0;
    }

    /** A SIGN or END. */
    private boolean isEnding(int sign) {
        return grammar.rules > 0 && sign >= 0 && sign <= grammar.signs;
    }

    public int undo() {
        if (history.acts == 0) {
            return NONE;
        }
        flip(history.take());
        return history.acts;
    }

    /** Each ACT is its own opposite, so doing and undoing are one. */
    private void flip(int act) {
        if (act < RULES_MOST) {
            grammar.in ^= 1 << act;
            rulesChanged();
        } else {
            grammar.prefers ^= 1 << act - RULES_MOST;
            prefersChanged();
        }
    }

    private void rulesChanged() {
        facts.find();
        for (int kind = 0; kind < KINDS; kind++) {
            automata[kind].stale = true;
        }
        prefersChanged();
    }

    private void prefersChanged() {
        for (int kind = 0; kind < KINDS; kind++) {
            actions[kind].stale = true;
        }
    }

    public int states(int kind) {
        return isThere(kind) ? automata[kind].states : NONE;
    }

    /** Whether there is such an AUTOMATON; it is made, if need be. */
    private boolean isThere(int kind) {
        if (grammar.rules == 0 || kind < 0 || kind >= KINDS) {
            return false;
        }
        if (automata[kind].stale) {
            builder.build(automata[kind]);
        }
        return automata[kind].there;
    }

    /** Of an AUTOMATON that is there. */
    private Actions actionsOf(int kind) {
        if (actions[kind].stale) {
            actions[kind].fill();
        }
        return actions[kind];
    }

    public int look(int kind, int state, int rule, int dot, boolean closed) {
        if (!isThere(kind) || !automata[kind].hasState(state) || rule < 0 || rule > grammar.rules) {
            return NONE;
        }
        if (dot < 0 || dot > grammar.length[rule]) {
            return NONE;
        }
        int look = automata[kind].kernelOf(state).lookOf(rule * DOTS + dot);
        if (look == 0 && closed && dot == 0) {
            look = automata[kind].openLook(state, rule);
        }
        return look;
    }

    public int state(int kind, int state, int what) {
        if (!isThere(kind) || !automata[kind].hasState(state)) {
            return NONE;
        }
        Automaton automaton = automata[kind];
        Actions table = actionsOf(kind);
        switch (what) {
            case 0:
                return automaton.kernelOf(state).size;
            case 1:
                return automaton.closureSize(state);
            case 2:
                return Integer.bitCount(automaton.lettersFrom(state));
            case 3:
                return table.byDefault[state];
            case 4:
                return table.conflicts[state];
            case 5:
                return automaton.pathLength[state];
            default:
                return NONE;
        }
    }

    public int goesTo(int kind, int state, int letter) {
        if (!isThere(kind) || !automata[kind].hasState(state)) {
            return NONE;
        }
        if (letter >= 0 && letter < grammar.signs) {
            return automata[kind].goal(state, letter);
        }
        if (letter >= NAME_CODE && isName(letter - NAME_CODE)) {
            return automata[kind].goal(state, FIRST_NAME + letter - NAME_CODE);
        }
        return NONE;
    }

    public int action(int kind, int state, int sign, boolean defaults) {
        if (!isThere(kind) || !automata[kind].hasState(state) || !isEnding(sign)) {
            return HIDDEN;
        }
        return actionsOf(kind).told(state, sign, defaults);
    }

    public int bridge(int kind, int state, int name, int sign) {
        if (!isThere(kind) || !automata[kind].hasState(state) || !isName(name) || !isEnding(sign)) {
            return NONE;
        }
        return actionsOf(kind).across(state, name, sign);
    }

    public int counts(int kind, int what) {
        if (!isThere(kind)) {
            return NONE;
        }
        Automaton automaton = automata[kind];
        Actions table = actionsOf(kind);
        switch (what) {
            case 0:
                return table.conflictsInAll();
            case 1:
                return table.statesInConflict();
            case 2:
                return automaton.splitCores();
            case 3:
                return automaton.mostOfOneCore();
            case 4:
                return automaton.itemsOfKernels();
            case 5:
                return table.actionsInAll();
            case 6:
                return table.statesWithDefault();
            default:
                return NONE;
        }
    }

    public int path(int kind, int state, int i) {
        if (!isThere(kind) || !automata[kind].hasState(state)) {
            return NONE;
        }
        if (i < 0 || i >= automata[kind].pathLength[state]) {
            return NONE;
        }
        return Grammar.codeOf(automata[kind].pathLetter(state, i));
    }

    public int reads(int kind, int sentence, int mode, int what) {
        if (!isThere(kind) || !readsSentence(kind, sentence, mode)) {
            return NONE;
        }
        switch (what) {
            case 0:
                return reading.ends;
            case 1:
                return reading.steps;
            case 2:
                return reading.read;
            case 3:
                return reading.done;
            default:
                return NONE;
        }
    }

    /** Whether there are such ones; if so, the reading is of that SENTENCE then. The AUTOMATON is there. */
    private boolean readsSentence(int kind, int sentence, int mode) {
        if (!isSentence(sentence) || mode < 0 || mode >= MODES) {
            return false;
        }
        reading.length = 0;
        for (int i = 0; i < sentences.length[sentence]; i++) {
            reading.put(grammar.signNumber[sentences.letterAt(sentence, i)]);
        }
        reading.run(actionsOf(kind), mode);
        return true;
    }

    public int reduced(int kind, int sentence, int mode, int i) {
        if (!isThere(kind) || !readsSentence(kind, sentence, mode) || i < 0 || i >= reading.done) {
            return NONE;
        }
        return reading.rules[i];
    }

    public int expects(int kind, int sentence) {
        if (!isThere(kind) || !readsSentence(kind, sentence, BARE) || reading.ends != ERRS) {
            return NONE;
        }
        return reading.expected();
    }

    public int mends(int kind, int sentence) {
        if (!isThere(kind) || !readsSentence(kind, sentence, BARE)) {
            return NONE;
        }
        if (reading.ends == WELL) {
            return HIDDEN;
        }
        // The same signs up to the one it failed at fail alike, so no change behind that one mends.
        int last = reading.read;
        for (int place = 0; place <= last; place++) {
            int change = mendAt(actionsOf(kind), sentence, place);
            if (change != NONE) {
                return place * PLACE + change;
            }
        }
        return NONE;
    }

    /** What is to be done at that place: 0, 1 and a SIGN, 20 and a SIGN. NONE: nothing there mends. */
    private int mendAt(Actions table, int sentence, int place) {
        int length = sentences.length[sentence];
        if (place < length) {
            if (endsWellChanged(table, sentence, place, 1, NONE)) {
                return 0;
            }
            int old = grammar.signNumber[sentences.letterAt(sentence, place)];
            for (int sign = 0; sign < grammar.signs; sign++) {
                if (sign != old && endsWellChanged(table, sentence, place, 1, sign)) {
                    return 1 + sign;
                }
            }
        }
        for (int sign = 0; sign < grammar.signs && length < SENTENCE_ROOM; sign++) {
            if (endsWellChanged(table, sentence, place, 0, sign)) {
                return PUT_IN + sign;
            }
        }
        return NONE;
    }

    /** At that place so many SIGNS (0, 1) are left out and that one (NONE: none) put in. */
    private boolean endsWellChanged(Actions table, int sentence, int place, int out, int sign) {
        reading.length = 0;
        for (int i = 0; i < place; i++) {
            reading.put(grammar.signNumber[sentences.letterAt(sentence, i)]);
        }
        if (sign != NONE) {
            reading.put(sign);
        }
        for (int i = place + out; i < sentences.length[sentence]; i++) {
            reading.put(grammar.signNumber[sentences.letterAt(sentence, i)]);
        }
        reading.run(table, BARE);
        return reading.ends == WELL;
    }

    public int tree(int kind, int sentence, int i, int what) {
        if (!isThere(kind) || !readsSentence(kind, sentence, BARE) || i < 0 || i >= reading.done) {
            return NONE;
        }
        switch (what) {
            case 0:
                return reading.sizes[i];
            case 1:
                return reading.aheads[i];
            case 2:
                return reading.heights[i];
            default:
                return NONE;
        }
    }

    public int sorts() {
        if (grammar.rules == 0) {
            return NONE;
        }
        int sorts = facts.rulesAreSelected() ? 1 : 0;
        if (isThere(JOINED) && actionsOf(JOINED).followsSettle()) {
            sorts |= 2;
        }
        for (int kind = 0; kind < KINDS; kind++) {
            if (isThere(kind) && actionsOf(kind).statesInConflict() == 0) {
                sorts |= 16 >> kind;
            }
        }
        return sorts;
    }

    public int same(int one, int other, int m) {
        if (!isThere(one) || !isThere(other) || m < 0 || m > SAME_MOST) {
            return NONE;
        }
        for (int length = 0; length <= m; length++) {
            int found = firstByOneAlone(actionsOf(one), actionsOf(other), length);
            if (found != NONE) {
                return found;
            }
        }
        return NONE;
    }

    /** The first word of that length that ends well by the one and not by the other, as a number; NONE: none. */
    private int firstByOneAlone(Actions one, Actions other, int length) {
        if (length > 0 && grammar.signs == 0) {
            return NONE;
        }
        reading.length = 0;
        for (int i = 0; i < length; i++) {
            reading.put(0);
        }
        boolean more = true;
        for (int turn = 0; more && turn < TURNS_MOST; turn++) {
            reading.run(one, BARE);
            // Words that begin alike, up to the sign at which this one fails, all fail: they are passed over.
            int place = reading.read;
            if (reading.ends == WELL) {
                reading.run(other, BARE);
                if (reading.ends != WELL) {
                    return reading.inputAsNumber();
                }
                place = length;
            }
            more = reading.nextInput(Math.min(place, length - 1));
        }
        return NONE;
    }

    public int word(long seed, int i) {
        if (grammar.rules == 0 || !draw.make(seed)) {
            return NONE;
        }
        if (i == NONE) {
            return draw.length;
        }
        return i < 0 || i >= draw.length ? NONE : draw.row[i];
    }

    public int keep(long seed) {
        if (grammar.rules == 0 || sentences.count == SENTENCES_MOST) {
            return NONE;
        }
        if (!draw.make(seed) || draw.length > SENTENCE_ROOM) {
            return NONE;
        }
        sentences.open();
        for (int i = 0; i < draw.length; i++) {
            sentences.put(grammar.signLetter[draw.row[i]]);
        }
        return sentences.count - 1;
    }

    public int image() {
        if (grammar.rules == 0) {
            return NONE;
        }
        history.kept = true;
        history.keptIn = grammar.in;
        history.keptPrefers = grammar.prefers;
        return Integer.bitCount(grammar.in);
    }

    public int back() {
        if (!history.kept) {
            return NONE;
        }
        grammar.in = history.keptIn;
        grammar.prefers = history.keptPrefers;
        history.acts = 0;
        rulesChanged();
        return Integer.bitCount(grammar.in);
    }

    public int count(int what) {
        switch (what) {
            case 0:
                return grammar.rules;
            case 1:
                return grammar.names;
            case 2:
                return grammar.signs;
            case 3:
                return sentences.count;
            case 4:
                return tape.length;
            case 5:
                return Integer.bitCount(grammar.in);
            case 6:
                return history.acts;
            default:
                return HIDDEN;
        }
    }

    /** The TAPE: bytes that are not a TEXT yet. */
    private static final class Tape {
        private static final int LEFT = 0;
        private static final int EQUALS = 1;
        private static final int RIGHT = 2;

        final int[] bytes = new int[TAPE_ROOM];
        int length;

        /** How many of its bytes are not 0. */
        static int solid(int number) {
            int count = 0;
            for (int shift = 24; shift >= 0; shift -= 8) {
                if ((number >>> shift & 255) != 0) {
                    count++;
                }
            }
            return count;
        }

        void put(int number) {
            for (int shift = 24; shift >= 0; shift -= 8) {
                int one = number >>> shift & 255;
                if (one != 0 && length < TAPE_ROOM) {
                    bytes[length] = one;
                    length++;
                }
            }
        }

        static boolean isNameByte(int one) {
            return one >= 'A' && one <= 'Z';
        }

        static boolean isSignByte(int one) {
            return one >= 'a' && one <= 'z';
        }

        int sentenceFault() {
            int signs = 0;
            for (int i = 0; i < length; i++) {
                if (bytes[i] != BLANK) {
                    signs++;
                    if (!isSignByte(bytes[i]) || signs > SENTENCE_ROOM) {
                        return i;
                    }
                }
            }
            return NONE;
        }

        int grammarFault() {
            int stage = LEFT;
            int rules = 0;
            int letters = 0;
            int names = 0;
            int leftNames = 0;
            int signs = 0;
            for (int i = 0; i < length; i++) {
                int one = bytes[i];
                if (isNameByte(one) && stage == LEFT) {
                    names |= 1 << one - 'A';
                    leftNames |= 1 << one - 'A';
                    stage = EQUALS;
                } else if (one == '=' && stage == EQUALS) {
                    rules++;
                    letters = 0;
                    stage = RIGHT;
                } else if (one == ';' && stage == RIGHT && rules < RULES_MOST) {
                    stage = LEFT;
                } else if (isNameByte(one) && stage == RIGHT) {
                    names |= 1 << one - 'A';
                    letters++;
                } else if (isSignByte(one) && stage == RIGHT) {
                    signs |= 1 << one - 'a';
                    letters++;
                } else if (one != BLANK) {
                    return i;
                }
                if (letters > LETTERS_MOST || areMany(names, signs)) {
                    return i;
                }
            }
            return stage == RIGHT && names == leftNames ? NONE : length;
        }

        private static boolean areMany(int names, int signs) {
            return Integer.bitCount(names) > NAMES_MOST || Integer.bitCount(signs) > SIGNS_MOST;
        }
    }

    /** The GRAMMAR as it was told, which of its RULES are IN and which SIGNS PREFER to reduce. */
    private static final class Grammar {
        int rules;
        int names;
        int signs;
        int in;
        int prefers;
        /** The OUTER RULE stands behind all RULES in these. */
        final int[] left = new int[RULES_MOST + 1];
        final int[] length = new int[RULES_MOST + 1];
        final int[] letters = new int[(RULES_MOST + 1) * LETTERS_MOST];
        final int[] nameLetter = new int[NAMES_MOST];
        final int[] nameNumber = new int[ALPHABET];
        final int[] signLetter = new int[SIGNS_MOST];
        final int[] signNumber = new int[ALPHABET];

        /** A letter as the face tells it. */
        static int codeOf(int letter) {
            return letter < FIRST_NAME ? letter : NAME_CODE + letter - FIRST_NAME;
        }

        boolean isIn(int rule) {
            return (in >> rule & 1) != 0;
        }

        boolean doesPrefer(int sign) {
            return (prefers >> sign & 1) != 0;
        }

        boolean isUnit(int rule) {
            return length[rule] == 1 && letters[rule * LETTERS_MOST] >= FIRST_NAME;
        }

        /** NONE: the DOT stands behind all letters. */
        int letterAt(int rule, int dot) {
            return dot < length[rule] ? letters[rule * LETTERS_MOST + dot] : NONE;
        }

        int endBit() {
            return 1 << signs;
        }

        /** The TAPE has no FAULT. */
        void load(Tape tape) {
            numberNames(tape);
            numberSigns(tape);
            rules = 0;
            boolean right = false;
            for (int i = 0; i < tape.length; i++) {
                int one = tape.bytes[i];
                if (one == '=') {
                    right = true;
                } else if (one == ';') {
                    right = false;
                } else if (Tape.isSignByte(one)) {
                    addLetter(signNumber[one - 'a']);
                } else if (Tape.isNameByte(one) && right) {
                    addLetter(FIRST_NAME + nameNumber[one - 'A']);
                } else if (Tape.isNameByte(one)) {
                    addRule(nameNumber[one - 'A']);
                }
            }
            in = (1 << rules) - 1;
            prefers = 0;
            addOuterRule();
        }

        private void numberNames(Tape tape) {
            names = 0;
            Arrays.fill(nameNumber, NONE);
            boolean right = false;
            for (int i = 0; i < tape.length; i++) {
                int one = tape.bytes[i];
                if (one == '=' || one == ';') {
                    right = one == '=';
                } else if (!right && Tape.isNameByte(one) && nameNumber[one - 'A'] == NONE && names < NAMES_MOST) {
                    nameNumber[one - 'A'] = names;
                    nameLetter[names] = one;
                    names++;
                }
            }
        }

        private void numberSigns(Tape tape) {
            int told = 0;
            for (int i = 0; i < tape.length; i++) {
                if (Tape.isSignByte(tape.bytes[i])) {
                    told |= 1 << tape.bytes[i] - 'a';
                }
            }
            signs = 0;
            Arrays.fill(signNumber, STRANGE);
            for (int i = 0; i < ALPHABET; i++) {
                if ((told >> i & 1) != 0 && signs < SIGNS_MOST) {
                    signNumber[i] = signs;
                    signLetter[signs] = i;
                    signs++;
                }
            }
        }

        private void addRule(int name) {
            if (rules < RULES_MOST) {
                left[rules] = name;
                length[rules] = 0;
                rules++;
            }
        }

        private void addLetter(int letter) {
            int rule = rules - 1;
            if (rule >= 0 && length[rule] < LETTERS_MOST) {
                letters[rule * LETTERS_MOST + length[rule]] = letter;
                length[rule]++;
            }
        }

        private void addOuterRule() {
            left[rules] = NONE;
            length[rules] = 1;
            letters[rules * LETTERS_MOST] = FIRST_NAME;
        }
    }

    /** The SENTENCES by their letters (0 for a ..): the GRAMMAR that numbers them may change. */
    private static final class Sentences {
        int count;
        final int[] length = new int[SENTENCES_MOST];
        private final int[] letters = new int[SENTENCES_MOST * SENTENCE_ROOM];

        /** There are less than four. */
        void open() {
            if (count < SENTENCES_MOST) {
                length[count] = 0;
                count++;
            }
        }

        /** A letter more for the last one. */
        void put(int letter) {
            int last = count - 1;
            if (last >= 0 && length[last] < SENTENCE_ROOM) {
                letters[last * SENTENCE_ROOM + length[last]] = letter;
                length[last]++;
            }
        }

        int letterAt(int sentence, int i) {
            return letters[sentence * SENTENCE_ROOM + i];
        }
    }

    /** The ACTS that can be UNDONE (a RULE, or a SIGN behind all RULES there could be), and the IMAGE. */
    private static final class History {
        int acts;
        boolean kept;
        int keptIn;
        int keptPrefers;
        private final int[] latest = new int[ACTS_MOST];

        void clear() {
            acts = 0;
            kept = false;
        }

        void add(int act) {
            if (acts == ACTS_MOST) {
                System.arraycopy(latest, 1, latest, 0, ACTS_MOST - 1);
                acts--;
            }
            latest[acts] = act;
            acts++;
        }

        /** There is one. */
        int take() {
            if (acts > 0) {
                acts--;
            }
            return latest[acts];
        }
    }

    /** What can be told of NAMES by the RULES that are IN, without any AUTOMATON. */
    private static final class Facts {
        private final Grammar grammar;
        int empty;
        int leftNames;
        int useful;
        final int[] first = new int[NAMES_MOST];
        final int[] follow = new int[NAMES_MOST];
        final int[] shortest = new int[NAMES_MOST];
        /** By ITEMS: FIRST of the letters behind the DOT, with ALL_EMPTY if they are. */
        final int[] rest = new int[ITEMS];
        private final int[] reached = new int[NAMES_MOST];
        private final int[] trees = new int[(HEIGHT_MOST + 1) * NAMES_MOST * (SIZE_MOST + 1)];
        private boolean treesStand;
        private long[] ways = new long[SIZE_MOST + 1];
        private long[] waysThen = new long[SIZE_MOST + 1];

        Facts(Grammar grammar) {
            this.grammar = grammar;
        }

        void find() {
            treesStand = false;
            findEmpty();
            findFirst();
            findFollow();
            findShortest();
            findLeft();
            findUseful();
        }

        boolean isEmptyName(int name) {
            return (empty >> name & 1) != 0;
        }

        private boolean isEmptyLetter(int letter) {
            return letter >= FIRST_NAME && (empty >> letter - FIRST_NAME & 1) != 0;
        }

        private void findEmpty() {
            empty = 0;
            boolean more = true;
            for (int round = 0; more && round <= NAMES_MOST; round++) {
                int before = empty;
                for (int rule = 0; rule < grammar.rules; rule++) {
                    if (grammar.isIn(rule) && emptyAhead(rule) == grammar.length[rule]) {
                        empty |= 1 << grammar.left[rule];
                    }
                }
                more = empty != before;
            }
        }

        /** How many letters of a RULE, from the left, are EMPTY NAMES. */
        private int emptyAhead(int rule) {
            int ahead = 0;
            while (ahead < grammar.length[rule] && isEmptyLetter(grammar.letterAt(rule, ahead))) {
                ahead++;
            }
            return ahead;
        }

        private void findFirst() {
            Arrays.fill(first, 0);
            boolean more = true;
            for (int round = 0; more && round < TURNS_MOST; round++) {
                more = false;
                for (int rule = 0; rule <= grammar.rules; rule++) {
                    findRest(rule);
                    if (rule < grammar.rules && grammar.isIn(rule)) {
                        more |= add(first, grammar.left[rule], rest[rule * DOTS] & LOOK_BITS);
                    }
                }
            }
        }

        private void findRest(int rule) {
            int base = rule * DOTS;
            rest[base + grammar.length[rule]] = ALL_EMPTY;
            for (int dot = grammar.length[rule] - 1; dot >= 0; dot--) {
                int letter = grammar.letterAt(rule, dot);
                if (letter < FIRST_NAME) {
                    rest[base + dot] = 1 << letter;
                } else {
                    int behind = isEmptyLetter(letter) ? rest[base + dot + 1] : 0;
                    rest[base + dot] = first[letter - FIRST_NAME] | behind;
                }
            }
        }

        /** Whether these bits told any more there. */
        private static boolean add(int[] sets, int at, int bits) {
            int before = sets[at];
            sets[at] = before | bits;
            return sets[at] != before;
        }

        private void findFollow() {
            Arrays.fill(follow, 0);
            follow[0] = grammar.endBit();
            boolean more = true;
            for (int round = 0; more && round < TURNS_MOST; round++) {
                more = false;
                for (int rule = 0; rule < grammar.rules; rule++) {
                    if (grammar.isIn(rule) && addFollows(rule)) {
                        more = true;
                    }
                }
            }
        }

        private boolean addFollows(int rule) {
            boolean more = false;
            for (int dot = 0; dot < grammar.length[rule]; dot++) {
                int letter = grammar.letterAt(rule, dot);
                if (letter >= FIRST_NAME) {
                    more |= add(follow, letter - FIRST_NAME, looksBehind(rule, dot + 1, follow[grammar.left[rule]]));
                }
            }
            return more;
        }

        /** FIRST of the letters from that DOT on and, if all these are EMPTY, those bits. */
        int looksBehind(int rule, int dot, int bits) {
            int behind = rest[rule * DOTS + dot];
            return behind & LOOK_BITS | ((behind & ALL_EMPTY) != 0 ? bits : 0);
        }

        private void findShortest() {
            Arrays.fill(shortest, NONE);
            boolean more = true;
            for (int round = 0; more && round < TURNS_MOST; round++) {
                more = false;
                for (int rule = 0; rule < grammar.rules; rule++) {
                    int sum = grammar.isIn(rule) ? shortestSum(rule) : NONE;
                    int name = grammar.left[rule];
                    if (sum != NONE && (shortest[name] == NONE || sum < shortest[name])) {
                        shortest[name] = sum;
                        more = true;
                    }
                }
            }
        }

        /** The sum of SHORTEST of a RULE's letters; NONE: not all of them are told. */
        int shortestSum(int rule) {
            int sum = 0;
            for (int dot = 0; dot < grammar.length[rule]; dot++) {
                int letter = grammar.letterAt(rule, dot);
                int one = letter < FIRST_NAME ? 1 : shortest[letter - FIRST_NAME];
                if (one == NONE) {
                    return NONE;
                }
                sum += one;
            }
            return sum;
        }

        private void findLeft() {
            findReached(true);
            leftNames = 0;
            for (int name = 0; name < grammar.names; name++) {
                leftNames |= reached[name] & 1 << name;
            }
        }

        private void findUseful() {
            findReached(false);
            useful = 1 | reached[0];
        }

        /** By NAMES: NAMES that stand in what comes from it by one RULE or more (at the beginning alone, or anywhere). */
        private void findReached(boolean beginning) {
            Arrays.fill(reached, 0);
            for (int rule = 0; rule < grammar.rules; rule++) {
                int letters = beginning ? emptyAhead(rule) + 1 : LETTERS_MOST;
                for (int dot = 0; grammar.isIn(rule) && dot < letters; dot++) {
                    int letter = grammar.letterAt(rule, dot);
                    if (letter >= FIRST_NAME) {
                        reached[grammar.left[rule]] |= 1 << letter - FIRST_NAME;
                    }
                }
            }
            for (int over = 0; over < NAMES_MOST; over++) {
                for (int from = 0; from < NAMES_MOST; from++) {
                    if ((reached[from] >> over & 1) != 0) {
                        reached[from] |= reached[over];
                    }
                }
            }
        }

        int endingNames() {
            int bits = 0;
            for (int name = 0; name < grammar.names; name++) {
                if (shortest[name] != NONE) {
                    bits |= 1 << name;
                }
            }
            return bits;
        }

        /** Whether no two RULES of one NAME are SELECTED by the same SIGN or END. */
        boolean rulesAreSelected() {
            Arrays.fill(reached, 0);
            for (int rule = 0; rule < grammar.rules; rule++) {
                if (grammar.isIn(rule)) {
                    int name = grammar.left[rule];
                    int selects = looksBehind(rule, 0, follow[name]);
                    if ((reached[name] & selects) != 0) {
                        return false;
                    }
                    reached[name] |= selects;
                }
            }
            return true;
        }

        int treesOf(int name, int n, int h) {
            if (!treesStand) {
                countTrees();
                treesStand = true;
            }
            return trees[treesAt(name, h) + n];
        }

        private static int treesAt(int name, int h) {
            return (h * NAMES_MOST + name) * (SIZE_MOST + 1);
        }

        private void countTrees() {
            Arrays.fill(trees, 0);
            for (int h = 1; h <= HEIGHT_MOST; h++) {
                for (int rule = 0; rule < grammar.rules; rule++) {
                    if (grammar.isIn(rule)) {
                        countWays(rule, h - 1);
                        addWays(treesAt(grammar.left[rule], h));
                    }
                }
            }
        }

        private void addWays(int at) {
            for (int n = 0; n <= SIZE_MOST; n++) {
                trees[at + n] = (int) Math.min(trees[at + n] + ways[n], TREES_MOST);
            }
        }

        /** By how many SIGNS are below: rows of trees of that height at most for the letters of a RULE. */
        private void countWays(int rule, int h) {
            Arrays.fill(ways, 0);
            ways[0] = 1;
            for (int dot = 0; dot < grammar.length[rule]; dot++) {
                int letter = grammar.letterAt(rule, dot);
                Arrays.fill(waysThen, 0);
                if (letter < FIRST_NAME) {
                    System.arraycopy(ways, 0, waysThen, 1, SIZE_MOST);
                } else {
                    joinWays(treesAt(letter - FIRST_NAME, h));
                }
                long[] old = ways;
                ways = waysThen;
                waysThen = old;
            }
        }

        private void joinWays(int at) {
            for (int n = 0; n <= SIZE_MOST; n++) {
                for (int more = 0; n + more <= SIZE_MOST; more++) {
                    long product = Math.min(ways[n] * trees[at + more], TREES_MOST);
                    waysThen[n + more] = Math.min(waysThen[n + more] + product, TREES_MOST);
                }
            }
        }
    }

    /** ITEMS with LOOKS, the ITEMS rising: then those of the same CORE lie at the same places. */
    private static final class Kernel {
        int size;
        final int[] items = new int[KERNEL_ROOM];
        final int[] looks = new int[KERNEL_ROOM];

        void put(int item, int look) {
            if (size < KERNEL_ROOM) {
                items[size] = item;
                looks[size] = look;
                size++;
            }
        }

        void copy(Kernel other) {
            size = other.size;
            System.arraycopy(other.items, 0, items, 0, size);
            System.arraycopy(other.looks, 0, looks, 0, size);
        }

        boolean hasCoreOf(Kernel other) {
            boolean alike = size == other.size;
            for (int i = 0; alike && i < size; i++) {
                alike = items[i] == other.items[i];
            }
            return alike;
        }

        /** They have the same CORE. */
        boolean hasLooksOf(Kernel other) {
            boolean alike = true;
            for (int i = 0; alike && i < size; i++) {
                alike = looks[i] == other.looks[i];
            }
            return alike;
        }

        /** WEAKLY COMPATIBLE; they have the same CORE. */
        boolean isCompatible(Kernel other) {
            for (int i = 0; i < size; i++) {
                for (int j = i + 1; j < size; j++) {
                    boolean crossed = (looks[i] & other.looks[j]) != 0 || (looks[j] & other.looks[i]) != 0;
                    if (crossed && (looks[i] & looks[j]) == 0 && (other.looks[i] & other.looks[j]) == 0) {
                        return false;
                    }
                }
            }
            return true;
        }

        /** The LOOKS of one of the same CORE are added: whether any is more by that. */
        boolean join(Kernel other) {
            boolean more = false;
            for (int i = 0; i < size; i++) {
                int all = looks[i] | other.looks[i];
                more |= all != looks[i];
                looks[i] = all;
            }
            return more;
        }

        /** 0: it has no such ITEM. */
        int lookOf(int item) {
            for (int i = 0; i < size; i++) {
                if (items[i] == item) {
                    return looks[i];
                }
            }
            return 0;
        }
    }

    /**
     * STATES lie in slots in the order in which they arose; their numbers are told anew at the end.
     * All ITEMS that a CLOSURE adds have the DOT 0, and those of one NAME the same LOOK: so a LOOK a NAME tells it.
     */
    private static final class Automaton {
        final int kind;
        private final Grammar grammar;
        private final Facts facts;
        boolean stale = true;
        boolean there;
        int slots;
        /** Made as slots come to be used, and used again by later automata. */
        private final Kernel[] kernels = new Kernel[STATES_MOST];
        /** The first slot of the same CORE. */
        private final int[] cores = new int[STATES_MOST];
        private final int[] opens = new int[STATES_MOST * NAMES_MOST];
        private final int[] goals = new int[STATES_MOST * LETTERS];
        int states;
        private final int[] slotOf = new int[STATES_MOST];
        private final int[] numberOf = new int[STATES_MOST];
        /** The last step of the PATH, and how many letters it has: a STATE is first come to by its PATH. */
        private final int[] cameFrom = new int[STATES_MOST];
        private final int[] cameBy = new int[STATES_MOST];
        final int[] pathLength = new int[STATES_MOST];
        private final int[] sharing = new int[STATES_MOST];

        Automaton(int kind, Grammar grammar, Facts facts) {
            this.kind = kind;
            this.grammar = grammar;
            this.facts = facts;
        }

        /** A new slot with that KERNEL, whose CORE is first in that slot (NONE: in none); there is room for it. */
        int add(Kernel kernel, int core) {
            int slot = slots;
            slots++;
            kernelIn(slot).copy(kernel);
            cores[slot] = core == NONE ? slot : core;
            Arrays.fill(goals, slot * LETTERS, (slot + 1) * LETTERS, NONE);
            return slot;
        }

        Kernel kernelIn(int slot) {
            if (kernels[slot] == null) {
                kernels[slot] = new Kernel();
            }
            return kernels[slot];
        }

        /** The first one; NONE: none. */
        int slotWithCore(Kernel kernel) {
            for (int slot = 0; slot < slots; slot++) {
                if (cores[slot] == slot && kernelIn(slot).hasCoreOf(kernel)) {
                    return slot;
                }
            }
            return NONE;
        }

        /**
         * The slot that does for that NEXT, of those of its CORE, which is first in that slot (NONE: in none).
         * Before: the one it went to up to now, or NONE. NONE: none does.
         */
        int slotFor(Kernel next, int core, int before) {
            if (core == NONE || kind == JOINED) {
                return core;
            }
            if (kind == WEAK && before != NONE && kernelIn(before).isCompatible(next)) {
                return before;
            }
            for (int slot = core; slot < slots; slot++) {
                Kernel kernel = kernelIn(slot);
                if (cores[slot] == core && (kind == PLAIN ? kernel.hasLooksOf(next) : kernel.isCompatible(next))) {
                    return slot;
                }
            }
            return NONE;
        }

        int goalOf(int slot, int letter) {
            return goals[slot * LETTERS + letter];
        }

        void setGoal(int slot, int letter, int goal) {
            goals[slot * LETTERS + letter] = goal;
        }

        void close(int slot) {
            int base = slot * NAMES_MOST;
            Arrays.fill(opens, base, base + NAMES_MOST, 0);
            Kernel kernel = kernelIn(slot);
            for (int i = 0; i < kernel.size; i++) {
                open(base, kernel.items[i] / DOTS, kernel.items[i] % DOTS, kernel.looks[i]);
            }
            boolean more = true;
            for (int round = 0; more && round < TURNS_MOST; round++) {
                more = false;
                for (int rule = 0; rule < grammar.rules; rule++) {
                    int look = openLookIn(slot, rule);
                    if (look != 0 && open(base, rule, 0, look)) {
                        more = true;
                    }
                }
            }
        }

        /** What an ITEM adds to the NAME behind its DOT: whether that is any more. */
        private boolean open(int base, int rule, int dot, int look) {
            int letter = grammar.letterAt(rule, dot);
            if (letter < FIRST_NAME) {
                return false;
            }
            int at = base + letter - FIRST_NAME;
            int all = opens[at] | facts.looksBehind(rule, dot + 1, look);
            boolean more = all != opens[at];
            opens[at] = all;
            return more;
        }

        /** LOOK of a RULE with the DOT 0 that the CLOSURE added; 0: it added none. */
        int openLookIn(int slot, int rule) {
            if (rule >= grammar.rules || !grammar.isIn(rule)) {
                return 0;
            }
            return opens[slot * NAMES_MOST + grammar.left[rule]];
        }

        void number() {
            Arrays.fill(numberOf, NONE);
            states = 0;
            addNumber(0, NONE, NONE);
            for (int state = 0; state < states && state < STATES_MOST; state++) {
                for (int letter = 0; letter < LETTERS; letter++) {
                    int goal = goalOf(slotOf[state], letter);
                    if (goal != NONE && numberOf[goal] == NONE) {
                        addNumber(goal, state, letter);
                    }
                }
            }
        }

        private void addNumber(int slot, int from, int by) {
            numberOf[slot] = states;
            slotOf[states] = slot;
            cameFrom[states] = from;
            cameBy[states] = by;
            pathLength[states] = from == NONE ? 0 : pathLength[from] + 1;
            states++;
        }

        boolean hasState(int state) {
            return state >= 0 && state < states;
        }

        Kernel kernelOf(int state) {
            return kernelIn(slotOf[state]);
        }

        int openLook(int state, int rule) {
            return openLookIn(slotOf[state], rule);
        }

        /** The STATE it GOES TO; NONE: nowhere. */
        int goal(int state, int letter) {
            int slot = goals[slotOf[state] * LETTERS + letter];
            return slot == NONE ? NONE : numberOf[slot];
        }

        /** Bits of the letters it GOES by. */
        int lettersFrom(int state) {
            int bits = 0;
            for (int letter = 0; letter < LETTERS; letter++) {
                if (goalOf(slotOf[state], letter) != NONE) {
                    bits |= 1 << letter;
                }
            }
            return bits;
        }

        int closureSize(int state) {
            int size = kernelOf(state).size;
            for (int rule = 0; rule < grammar.rules; rule++) {
                if (openLook(state, rule) != 0) {
                    size++;
                }
            }
            return size;
        }

        /** The PATH has more than i letters. */
        int pathLetter(int state, int i) {
            int at = state;
            for (int behind = pathLength[state] - 1; behind > i; behind--) {
                at = cameFrom[at];
            }
            return cameBy[at];
        }

        int itemsOfKernels() {
            int sum = 0;
            for (int state = 0; state < states; state++) {
                sum += kernelOf(state).size;
            }
            return sum;
        }

        int splitCores() {
            countSharing();
            int split = 0;
            for (int slot = 0; slot < slots; slot++) {
                if (sharing[slot] > 1) {
                    split++;
                }
            }
            return split;
        }

        int mostOfOneCore() {
            countSharing();
            int most = 0;
            for (int slot = 0; slot < slots; slot++) {
                most = Math.max(most, sharing[slot]);
            }
            return most;
        }

        private void countSharing() {
            Arrays.fill(sharing, 0);
            for (int state = 0; state < states; state++) {
                sharing[cores[slotOf[state]]]++;
            }
        }
    }

    /** Makes AUTOMATA; one serves all three, since only one is made at a time. */
    private static final class Builder {
        private final Grammar grammar;
        private final int[] queue = new int[STATES_MOST];
        private final int[] isWaiting = new int[STATES_MOST];
        private int head;
        private int waiting;
        private final Kernel now = new Kernel();
        private final Kernel next = new Kernel();

        Builder(Grammar grammar) {
            this.grammar = grammar;
        }

        void build(Automaton automaton) {
            automaton.slots = 0;
            automaton.there = true;
            automaton.stale = false;
            Arrays.fill(isWaiting, 0);
            waiting = 0;
            next.size = 0;
            next.put(grammar.rules * DOTS, grammar.endBit());
            enqueue(automaton.add(next, NONE));
            for (int turn = 0; automaton.there && waiting > 0 && turn < TURNS_MOST; turn++) {
                expand(automaton, dequeue());
            }
            if (automaton.there) {
                automaton.number();
            }
        }

        private void enqueue(int slot) {
            if (isWaiting[slot] == 0) {
                isWaiting[slot] = 1;
                queue[(head + waiting) % STATES_MOST] = slot;
                waiting++;
            }
        }

        private int dequeue() {
            int slot = queue[head];
            head = (head + 1) % STATES_MOST;
            waiting--;
            isWaiting[slot] = 0;
            return slot;
        }

        private void expand(Automaton automaton, int slot) {
            // A state may be merged with its own NEXT: all letters go by what it was when it was taken out.
            now.copy(automaton.kernelIn(slot));
            automaton.close(slot);
            for (int letter = 0; automaton.there && letter < LETTERS; letter++) {
                findNext(automaton, slot, letter);
                if (next.size > 0) {
                    link(automaton, slot, letter);
                }
            }
        }

        private void findNext(Automaton automaton, int slot, int letter) {
            next.size = 0;
            int at = 0;
            for (int rule = 0; rule <= grammar.rules; rule++) {
                int look = automaton.openLookIn(slot, rule);
                if (look != 0 && grammar.letterAt(rule, 0) == letter) {
                    next.put(rule * DOTS + 1, look);
                }
                for (; at < now.size && now.items[at] / DOTS == rule; at++) {
                    if (grammar.letterAt(rule, now.items[at] % DOTS) == letter) {
                        next.put(now.items[at] + 1, now.looks[at]);
                    }
                }
            }
        }

        private void link(Automaton automaton, int slot, int letter) {
            int core = automaton.slotWithCore(next);
            int goal = automaton.slotFor(next, core, automaton.goalOf(slot, letter));
            if (goal == NONE && automaton.slots == STATES_MOST) {
                automaton.there = false;
                return;
            }
            if (goal == NONE) {
                goal = automaton.add(next, core);
                enqueue(goal);
            } else if (automaton.kernelIn(goal).join(next)) {
                enqueue(goal);
            }
            automaton.setGoal(slot, letter, goal);
        }
    }

    /** ACTIONS of the STATES of one AUTOMATON, as conflicts are settled now. */
    private static final class Actions {
        private final Grammar grammar;
        private final Facts facts;
        final Automaton automaton;
        boolean stale = true;
        private final int[] table = new int[STATES_MOST * ENDINGS];
        final int[] byDefault = new int[STATES_MOST];
        final int[] conflicts = new int[STATES_MOST];
        /** What can be done by each SIGN or END in the STATE that was weighed last. */
        private int once;
        private int twice;
        private int accepts;
        private final int[] lowest = new int[ENDINGS];
        private final int[] uses = new int[RULES_MOST];

        Actions(Grammar grammar, Facts facts, Automaton automaton) {
            this.grammar = grammar;
            this.facts = facts;
            this.automaton = automaton;
        }

        void fill() {
            stale = false;
            for (int state = 0; state < automaton.states; state++) {
                weigh(state, false);
                conflicts[state] = twice;
                for (int sign = 0; sign <= grammar.signs; sign++) {
                    table[state * ENDINGS + sign] = settled(state, sign);
                }
                byDefault[state] = mostReduced(state);
            }
        }

        /** With FOLLOW in place of LOOKS, or not. */
        private void weigh(int state, boolean byFollow) {
            Arrays.fill(lowest, NONE);
            once = automaton.lettersFrom(state) & (1 << FIRST_NAME) - 1;
            twice = 0;
            accepts = 0;
            Kernel kernel = automaton.kernelOf(state);
            for (int i = 0; i < kernel.size; i++) {
                int rule = kernel.items[i] / DOTS;
                if (kernel.items[i] % DOTS == grammar.length[rule]) {
                    weighRule(rule, byFollow ? followOf(rule) : kernel.looks[i]);
                }
            }
            for (int rule = 0; rule < grammar.rules; rule++) {
                int look = automaton.openLook(state, rule);
                if (look != 0 && grammar.length[rule] == 0) {
                    weighRule(rule, byFollow ? followOf(rule) : look);
                }
            }
        }

        private int followOf(int rule) {
            return rule == grammar.rules ? grammar.endBit() : facts.follow[grammar.left[rule]];
        }

        private void weighRule(int rule, int look) {
            twice |= once & look;
            once |= look;
            if (rule == grammar.rules) {
                accepts = look;
                return;
            }
            for (int sign = 0; sign <= grammar.signs; sign++) {
                if ((look >> sign & 1) != 0 && (lowest[sign] == NONE || rule < lowest[sign])) {
                    lowest[sign] = rule;
                }
            }
        }

        private int settled(int state, int sign) {
            if ((accepts >> sign & 1) != 0) {
                return ACCEPT;
            }
            int goal = sign < grammar.signs ? automaton.goal(state, sign) : NONE;
            boolean reducesFirst = lowest[sign] != NONE && grammar.doesPrefer(sign);
            return goal == NONE || reducesFirst ? lowest[sign] : SHIFT + goal;
        }

        private int mostReduced(int state) {
            Arrays.fill(uses, 0);
            for (int sign = 0; sign <= grammar.signs; sign++) {
                int act = table[state * ENDINGS + sign];
                if (act >= 0 && act < RULES_MOST) {
                    uses[act]++;
                }
            }
            int most = NONE;
            for (int rule = 0; rule < RULES_MOST; rule++) {
                if (uses[rule] > 0 && (most == NONE || uses[rule] > uses[most])) {
                    most = rule;
                }
            }
            return most;
        }

        /** The ACTION by a SIGN, END, or a SIGN that the GRAMMAR has not. */
        int told(int state, int sign, boolean defaults) {
            int act = sign <= grammar.signs ? table[state * ENDINGS + sign] : NONE;
            return act == NONE && defaults ? byDefault[state] : act;
        }

        int across(int state, int name, int sign) {
            int goal = automaton.goal(state, FIRST_NAME + name);
            for (int times = 0; goal != NONE && times < BRIDGE_MOST; times++) {
                int act = told(goal, sign, false);
                if (act < 0 || act >= RULES_MOST || !grammar.isUnit(act)) {
                    return goal;
                }
                int then = automaton.goal(state, FIRST_NAME + grammar.left[act]);
                if (then == NONE) {
                    return goal;
                }
                goal = then;
            }
            return goal;
        }

        /** Whether, with FOLLOW in place of LOOKS, no SIGN or END could do more than one thing. */
        boolean followsSettle() {
            for (int state = 0; state < automaton.states; state++) {
                weigh(state, true);
                if (twice != 0) {
                    return false;
                }
            }
            return true;
        }

        int conflictsInAll() {
            int sum = 0;
            for (int state = 0; state < automaton.states; state++) {
                sum += Integer.bitCount(conflicts[state]);
            }
            return sum;
        }

        int statesInConflict() {
            int sum = 0;
            for (int state = 0; state < automaton.states; state++) {
                sum += conflicts[state] != 0 ? 1 : 0;
            }
            return sum;
        }

        int statesWithDefault() {
            int sum = 0;
            for (int state = 0; state < automaton.states; state++) {
                sum += byDefault[state] != NONE ? 1 : 0;
            }
            return sum;
        }

        int actionsInAll() {
            int sum = 0;
            for (int state = 0; state < automaton.states; state++) {
                for (int sign = 0; sign <= grammar.signs; sign++) {
                    sum += told(state, sign, false) != NONE ? 1 : 0;
                }
            }
            return sum;
        }
    }

    /** READING of the SIGNS in the input: one at a time, and what the last one came to. */
    private static final class Reading {
        private final Grammar grammar;
        private Actions table;
        private int mode;
        int length;
        private final int[] input = new int[SENTENCE_ROOM];
        private int depth;
        private final int[] row = new int[ROW_MOST];
        /** For each STATE in the row: SIGNS below the letter it came by, and how HIGH that is. */
        private final int[] below = new int[ROW_MOST];
        private final int[] high = new int[ROW_MOST];
        /** The row when the last SIGN was READ. */
        private int keptDepth;
        private final int[] keptRow = new int[ROW_MOST];
        int ends;
        int steps;
        int read;
        int done;
        final int[] rules = new int[STEPS_MOST];
        final int[] sizes = new int[STEPS_MOST];
        final int[] aheads = new int[STEPS_MOST];
        final int[] heights = new int[STEPS_MOST];

        Reading(Grammar grammar) {
            this.grammar = grammar;
        }

        void put(int sign) {
            if (length < SENTENCE_ROOM) {
                input[length] = sign;
                length++;
            }
        }

        void run(Actions table, int mode) {
            this.table = table;
            this.mode = mode;
            steps = 0;
            read = 0;
            done = 0;
            depth = 0;
            push(0, 0, 0);
            keepRow();
            ends = REDUCES;
            for (int turn = 0; ends >= REDUCES && turn <= STEPS_MOST; turn++) {
                ends = step(read < length ? input[read] : grammar.signs);
                if (ends == SHIFTS) {
                    read++;
                    keepRow();
                }
            }
        }

        private void keepRow() {
            keptDepth = depth;
            System.arraycopy(row, 0, keptRow, 0, depth);
        }

        private void push(int state, int size, int height) {
            row[depth] = state;
            below[depth] = size;
            high[depth] = height;
            depth++;
        }

        /** One ACTION by that next SIGN or END: ERRS, WELL, LOST, REDUCES or SHIFTS. */
        private int step(int next) {
            int act = table.told(row[depth - 1], next, mode == DEFAULTS);
            if (act == NONE) {
                return ERRS;
            }
            if (steps == STEPS_MOST) {
                return LOST;
            }
            steps++;
            if (act == ACCEPT) {
                return WELL;
            }
            return act >= SHIFT ? shift(act - SHIFT) : reduce(act, next);
        }

        private int shift(int state) {
            if (depth == ROW_MOST) {
                return LOST;
            }
            push(state, 1, 0);
            return SHIFTS;
        }

        private int reduce(int rule, int next) {
            int size = 0;
            int highest = 0;
            for (int gone = 0; gone < grammar.length[rule] && depth > 1; gone++) {
                depth--;
                size += below[depth];
                highest = Math.max(highest, high[depth]);
            }
            note(rule, size, highest + 1);
            if (depth == ROW_MOST) {
                return LOST;
            }
            int from = row[depth - 1];
            int name = grammar.left[rule];
            int goal = mode == BRIDGED ? table.across(from, name, next) : table.automaton.goal(from, FIRST_NAME + name);
            if (goal == NONE) {
                return ERRS;
            }
            push(goal, size, highest + 1);
            return REDUCES;
        }

        private void note(int rule, int size, int height) {
            if (done < STEPS_MOST) {
                rules[done] = rule;
                sizes[done] = size;
                aheads[done] = read - size;
                heights[done] = height;
                done++;
            }
        }

        /** EXPECTS, when the last run (BARE) ERRS; what else that run told is gone then. */
        int expected() {
            int bits = 0;
            for (int sign = 0; sign <= grammar.signs; sign++) {
                if (isTaken(sign)) {
                    bits |= 1 << sign;
                }
            }
            return bits;
        }

        /** Whether that one next would be READ, or ACCEPTED. */
        private boolean isTaken(int sign) {
            depth = keptDepth;
            System.arraycopy(keptRow, 0, row, 0, keptDepth);
            steps = 0;
            done = 0;
            int how = REDUCES;
            for (int turn = 0; how == REDUCES && turn <= STEPS_MOST; turn++) {
                how = step(sign);
            }
            return how == WELL || how == SHIFTS;
        }

        /** The input as digits: SIGNS' numbers and 1 each. */
        int inputAsNumber() {
            int number = 0;
            for (int i = 0; i < length; i++) {
                number = number * 10 + input[i] + 1;
            }
            return number;
        }

        /** The first input by the alphabet behind all that begin alike up to that place: whether there is one. */
        boolean nextInput(int place) {
            for (int i = place + 1; i < length; i++) {
                input[i] = 0;
            }
            for (int i = place; i >= 0; i--) {
                input[i]++;
                if (input[i] < grammar.signs) {
                    return true;
                }
                input[i] = 0;
            }
            return false;
        }
    }

    /** A WORD by a seed. */
    private static final class Draw {
        private final Grammar grammar;
        private final Facts facts;
        private long x;
        int length;
        /** One RULE's letters come in at most before the row is seen to be too long. */
        final int[] row = new int[WORD_ROOM + LETTERS_MOST];

        Draw(Grammar grammar, Facts facts) {
            this.grammar = grammar;
            this.facts = facts;
        }

        /** Whether there is one; then the row has its SIGNS. */
        boolean make(long seed) {
            x = seed;
            length = 1;
            row[0] = FIRST_NAME;
            int at = 0;
            for (int times = 0; times <= TIMES_MOST; times++) {
                while (at < length && row[at] < FIRST_NAME) {
                    at++;
                }
                if (at == length) {
                    return true;
                }
                int name = row[at] - FIRST_NAME;
                int rule = times < DRAWS ? drawnRule(name) : shortestRule(name);
                if (rule == NONE || times == TIMES_MOST) {
                    return false;
                }
                replace(at, rule);
                if (length > WORD_ROOM) {
                    return false;
                }
            }
            return false;
        }

        private int drawnRule(int name) {
            int rules = 0;
            for (int rule = 0; rule < grammar.rules; rule++) {
                rules += isRuleOf(rule, name) ? 1 : 0;
            }
            if (rules == 0) {
                return NONE;
            }
            x = x * FACTOR + ADDEND;
            int left = (int) ((x >>> 33) % rules);
            for (int rule = 0; rule < grammar.rules; rule++) {
                if (isRuleOf(rule, name)) {
                    if (left == 0) {
                        return rule;
                    }
                    left--;
                }
            }
            return NONE;
        }

        private boolean isRuleOf(int rule, int name) {
            return grammar.isIn(rule) && grammar.left[rule] == name;
        }

        private int shortestRule(int name) {
            int best = NONE;
            int least = 0;
            for (int rule = 0; rule < grammar.rules; rule++) {
                int sum = isRuleOf(rule, name) ? facts.shortestSum(rule) : NONE;
                if (sum != NONE && (best == NONE || sum < least)) {
                    best = rule;
                    least = sum;
                }
            }
            return best;
        }

        private void replace(int at, int rule) {
            int letters = grammar.length[rule];
            System.arraycopy(row, at + 1, row, at + letters, length - at - 1);
            for (int i = 0; i < letters; i++) {
                row[at + i] = grammar.letterAt(rule, i);
            }
            length += letters - 1;
        }
    }
}
