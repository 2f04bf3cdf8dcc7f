import java.math.BigInteger;
import java.util.ArrayDeque;
import java.util.ArrayList;
import java.util.Arrays;
import java.util.Collections;
import java.util.HashMap;
import java.util.HashSet;
import java.util.List;
import java.util.Map;
import java.util.NoSuchElementException;
import java.util.Set;
import java.util.TreeMap;
import java.util.TreeSet;

/**
 * The document once more, as slowly and as near to its words as can be, with the Java library:
 * CompareTest holds the class against it. Nothing here is shared with the class.
 */
final class Oracle {
    static final int NONE = -1;
    static final int HIDDEN = -1000000;
    private static final BigInteger BILLION = BigInteger.valueOf(1000000000L);

    private String tape = "";
    private final List<String> sentences = new ArrayList<>();
    private final List<String> told = new ArrayList<>(); // "A=bC", blanks gone
    private final List<Character> names = new ArrayList<>();
    private final List<Character> signs = new ArrayList<>();
    private final Set<Integer> out = new TreeSet<>();
    private final Set<Integer> prefers = new TreeSet<>();
    private final List<String> acts = new ArrayList<>();
    private Set<Integer> imageOut;
    private Set<Integer> imagePrefers;
    private final Map<Integer, Machine> machines = new HashMap<>();

    int feed(int... numbers) {
        StringBuilder more = new StringBuilder();
        for (int number : numbers) {
            for (byte b : java.nio.ByteBuffer.allocate(4).putInt(number).array()) {
                if (b != 0) {
                    more.append((char) (b & 255));
                }
            }
        }
        if (tape.length() + more.length() > 240) {
            return NONE;
        }
        tape += more;
        return tape.length();
    }

    boolean end(int n) {
        if (n < 0 || n > tape.length()) {
            return false;
        }
        tape = tape.substring(0, n);
        return true;
    }

    int fault(int sort) {
        if (sort != 0 && sort != 1) {
            return -2;
        }
        for (int i = 1; i <= tape.length(); i++) {
            String ahead = tape.substring(0, i).replace(" ", "");
            if (sort == 0 ? !grammarGoesOn(ahead) : !ahead.matches("[a-z]{0,24}")) {
                return i - 1;
            }
        }
        if (sort == 1) {
            return NONE;
        }
        String all = tape.replace(" ", "");
        if (!all.matches("[A-Z]=[A-Za-z]{0,5}(;[A-Z]=[A-Za-z]{0,5}){0,15}")) {
            return tape.length();
        }
        for (char c : all.toCharArray()) {
            if (Character.isUpperCase(c) && !(";" + all).contains(";" + c + "=")) {
                return tape.length();
            }
        }
        return NONE;
    }

    private static boolean grammarGoesOn(String ahead) {
        if (!ahead.matches("([A-Z]=[A-Za-z]{0,5};){0,15}([A-Z](=[A-Za-z]{0,5})?)?")) {
            return false;
        }
        Set<Character> big = new HashSet<>();
        Set<Character> small = new HashSet<>();
        for (char c : ahead.toCharArray()) {
            if (c >= 'A' && c <= 'Z') {
                big.add(c);
            } else if (c >= 'a' && c <= 'z') {
                small.add(c);
            }
        }
        return big.size() <= 6 && small.size() <= 8;
    }

    int text(int sort) {
        if (fault(sort) != NONE || sort == 1 && sentences.size() == 4) {
            return NONE;
        }
        String all = tape.replace(" ", "");
        tape = "";
        if (sort == 1) {
            sentences.add(all);
            return sentences.size() - 1;
        }
        told.clear();
        names.clear();
        signs.clear();
        TreeSet<Character> small = new TreeSet<>();
        for (String rule : all.split(";", -1)) {
            told.add(rule);
            if (!names.contains(rule.charAt(0))) {
                names.add(rule.charAt(0));
            }
            for (char c : rule.substring(2).toCharArray()) {
                if (Character.isLowerCase(c)) {
                    small.add(c);
                }
            }
        }
        signs.addAll(small);
        out.clear();
        prefers.clear();
        acts.clear();
        imageOut = null;
        imagePrefers = null;
        machines.clear();
        return told.size();
    }

    private boolean noGrammar() {
        return told.isEmpty();
    }

    private boolean isRule(int rule) {
        return rule >= 0 && rule < told.size();
    }

    private char left(int rule) {
        return rule == told.size() ? '*' : told.get(rule).charAt(0);
    }

    private String right(int rule) {
        return rule == told.size() ? "" + names.get(0) : told.get(rule).substring(2);
    }

    private boolean isIn(int rule) {
        return !out.contains(rule);
    }

    private boolean isUnit(int rule) {
        return right(rule).matches("[A-Z]");
    }

    int rule(int rule, int what) {
        if (!isRule(rule) || what < 0 || what > 3) {
            throw new NoSuchElementException();
        }
        return new int[] {names.indexOf(left(rule)), right(rule).length(), isIn(rule) ? 1 : 0, isUnit(rule) ? 1 : 0}[what];
    }

    private int code(char letter) {
        return Character.isUpperCase(letter) ? 100 + names.indexOf(letter) : signs.indexOf(letter);
    }

    int letter(int rule, int i) {
        return !isRule(rule) || i < 0 || i >= right(rule).length() ? NONE : code(right(rule).charAt(i));
    }

    private boolean isSentence(int sentence) {
        return !noGrammar() && sentence >= 0 && sentence < sentences.size();
    }

    int sign(int sentence, int i) {
        if (!isSentence(sentence)) {
            return NONE;
        }
        String all = sentences.get(sentence);
        if (i == NONE) {
            return all.length();
        }
        return i < 0 || i >= all.length() ? NONE : numbers(all).get(i);
    }

    private List<Integer> numbers(String sentence) {
        List<Integer> result = new ArrayList<>();
        for (char c : sentence.toCharArray()) {
            result.add(signs.contains(c) ? signs.indexOf(c) : 99);
        }
        return result;
    }

    // ---- what can be told of names

    private List<Integer> rulesOf(char name) {
        List<Integer> result = new ArrayList<>();
        for (int rule = 0; rule < told.size(); rule++) {
            if (isIn(rule) && left(rule) == name) {
                result.add(rule);
            }
        }
        return result;
    }

    /** Those from which nothing can come: by growing heights of trees without any sign. */
    private Set<Character> emptyNames() {
        Set<Character> result = new TreeSet<>();
        for (int height = 0; height <= 7; height++) {
            for (char name : names) {
                for (int rule : rulesOf(name)) {
                    boolean all = true;
                    for (char c : right(rule).toCharArray()) {
                        all &= result.contains(c);
                    }
                    if (all) {
                        result.add(name);
                    }
                }
            }
        }
        return result;
    }

    /** By a walk: which signs can come first from a row of letters. */
    private Set<Character> first(String row) {
        Set<Character> empty = emptyNames();
        Set<Character> seen = new HashSet<>();
        Set<Character> found = new TreeSet<>();
        ArrayDeque<String> toDo = new ArrayDeque<>();
        toDo.add(row);
        while (!toDo.isEmpty()) {
            for (char c : toDo.poll().toCharArray()) {
                if (Character.isLowerCase(c)) {
                    found.add(c);
                } else if (seen.add(c)) {
                    for (int rule : rulesOf(c)) {
                        toDo.add(right(rule));
                    }
                }
                if (!empty.contains(c)) {
                    break;
                }
            }
        }
        return found;
    }

    private boolean allEmpty(String row) {
        Set<Character> empty = emptyNames();
        for (char c : row.toCharArray()) {
            if (!empty.contains(c)) {
                return false;
            }
        }
        return true;
    }

    private int bits(Set<Character> some) {
        int bits = 0;
        for (char c : some) {
            bits |= 1 << signs.indexOf(c);
        }
        return bits;
    }

    private int endBit() {
        return 1 << signs.size();
    }

    private int follow(char name) {
        Map<Character, Integer> sets = new TreeMap<>();
        for (char c : names) {
            sets.put(c, 0);
        }
        sets.put(names.get(0), endBit());
        for (int round = 0; round < 80; round++) {
            boolean more = false;
            for (int rule = 0; rule < told.size(); rule++) {
                String row = right(rule);
                for (int i = 0; isIn(rule) && i < row.length(); i++) {
                    if (Character.isUpperCase(row.charAt(i))) {
                        String behind = row.substring(i + 1);
                        int add = bits(first(behind)) | (allEmpty(behind) ? sets.get(left(rule)) : 0);
                        int old = sets.get(row.charAt(i));
                        sets.put(row.charAt(i), old | add);
                        more |= (old | add) != old;
                    }
                }
            }
            if (!more) {
                break;
            }
        }
        return sets.get(name);
    }

    /** By heights: a name's shortest word has a tree in which no name stands above itself. */
    private int shortest(char name) {
        return shortest(name, names.size() + 1);
    }

    private int shortest(char name, int height) {
        int best = NONE;
        if (height == 0) {
            return NONE;
        }
        for (int rule : rulesOf(name)) {
            int sum = 0;
            for (char c : right(rule).toCharArray()) {
                int one = Character.isLowerCase(c) ? 1 : shortestKept(c, height - 1);
                if (one == NONE) {
                    sum = NONE;
                    break;
                }
                sum += one;
            }
            if (sum != NONE && (best == NONE || sum < best)) {
                best = sum;
            }
        }
        return best;
    }

    private final Map<String, Integer> shortestMemo = new HashMap<>();

    private int shortestKept(char name, int height) {
        String key = told + "" + out + name + height;
        Integer kept = shortestMemo.get(key);
        if (kept == null) {
            kept = shortest(name, height);
            shortestMemo.put(key, kept);
        }
        return kept;
    }

    int name(int name, int what) {
        if (name < 0 || name >= names.size() || what < 0 || what > 4) {
            return NONE;
        }
        char c = names.get(name);
        switch (what) {
            case 0: return emptyNames().contains(c) ? 1 : 0;
            case 1: return bits(first("" + c));
            case 2: return follow(c);
            case 3: return shortest(c);
            default: return c;
        }
    }

    int trees(int name, int n, int h) {
        if (name < 0 || name >= names.size() || n < 0 || n > 8 || h < 0 || h > 6) {
            return NONE;
        }
        return treesBelow("" + names.get(name), n, h, new HashMap<>()).min(BILLION).intValue();
    }

    /** Exact: rows of trees for a row of letters. */
    private BigInteger treesBelow(String row, int n, int h, Map<String, BigInteger> memo) {
        if (row.isEmpty()) {
            return n == 0 ? BigInteger.ONE : BigInteger.ZERO;
        }
        String key = row + n + "," + h;
        BigInteger sum = memo.get(key);
        if (sum != null) {
            return sum;
        }
        sum = BigInteger.ZERO;
        char c = row.charAt(0);
        if (Character.isLowerCase(c)) {
            sum = n == 0 ? BigInteger.ZERO : treesBelow(row.substring(1), n - 1, h, memo);
        } else {
            for (int own = 0; h > 0 && own <= n; own++) {
                BigInteger tops = BigInteger.ZERO;
                for (int rule : rulesOf(c)) {
                    tops = tops.add(treesBelow(right(rule), own, h - 1, memo));
                }
                if (tops.signum() != 0) {
                    sum = sum.add(tops.multiply(treesBelow(row.substring(1), n - own, h, memo)));
                }
            }
        }
        memo.put(key, sum);
        return sum;
    }

    int names(int what) {
        if (noGrammar() || what < 0 || what > 3) {
            return NONE;
        }
        int bits = 0;
        for (int i = 0; i < names.size(); i++) {
            char c = names.get(i);
            boolean is = what == 0 ? reach(c, true).contains(c)
                : what == 1 ? i == 0 || reach(names.get(0), false).contains(c)
                : what == 2 ? emptyNames().contains(c) : shortest(c) != NONE;
            bits |= is ? 1 << i : 0;
        }
        return bits;
    }

    private Set<Character> reach(char from, boolean atBeginning) {
        Set<Character> found = new TreeSet<>();
        ArrayDeque<Character> toDo = new ArrayDeque<>();
        toDo.add(from);
        while (!toDo.isEmpty()) {
            for (int rule : rulesOf(toDo.poll())) {
                String row = right(rule);
                for (int i = 0; i < row.length(); i++) {
                    boolean counts = !atBeginning || allEmpty(row.substring(0, i));
                    if (counts && Character.isUpperCase(row.charAt(i)) && found.add(row.charAt(i))) {
                        toDo.add(row.charAt(i));
                    }
                }
            }
        }
        return found;
    }

    // ---- acts

    int toggle(int rule) {
        if (!isRule(rule)) {
            return NONE;
        }
        acts.add("r" + rule);
        flip("r" + rule);
        return isIn(rule) ? 1 : 0;
    }

    int prefer(int sign) {
        if (noGrammar() || sign < 0 || sign > signs.size()) {
            return NONE;
        }
        acts.add("s" + sign);
        flip("s" + sign);
        return prefers.contains(sign) ? 1 : 0;
    }

    private void flip(String act) {
        while (acts.size() > 40) {
            acts.remove(0);
        }
        Set<Integer> set = act.charAt(0) == 'r' ? out : prefers;
        int number = Integer.parseInt(act.substring(1));
        if (!set.remove(number)) {
            set.add(number);
        }
        machines.clear();
    }

    int undo() {
        if (acts.isEmpty()) {
            return NONE;
        }
        flip(acts.remove(acts.size() - 1));
        return acts.size();
    }

    int image() {
        if (noGrammar()) {
            return NONE;
        }
        imageOut = new TreeSet<>(out);
        imagePrefers = new TreeSet<>(prefers);
        return told.size() - out.size();
    }

    int back() {
        if (imageOut == null) {
            return NONE;
        }
        out.clear();
        out.addAll(imageOut);
        prefers.clear();
        prefers.addAll(imagePrefers);
        acts.clear();
        machines.clear();
        return told.size() - out.size();
    }

    int count(int what) {
        if (what < 0 || what > 6) {
            return HIDDEN;
        }
        return new int[] {told.size(), names.size(), signs.size(), sentences.size(), tape.length(),
            told.size() - out.size(), acts.size()}[what];
    }

    // ---- automata

    /** An automaton with its states as told anew; null: not there. */
    private final class Machine {
        List<TreeMap<Integer, Integer>> kernels = new ArrayList<>();
        List<TreeMap<Integer, Integer>> goes = new ArrayList<>();
        List<TreeMap<Integer, Integer>> closures = new ArrayList<>();
        boolean there = true;

        /** Items are rule * 10 + dot; letters codes as the face tells them. */
        TreeMap<Integer, Integer> closure(TreeMap<Integer, Integer> kernel) {
            TreeMap<Integer, Integer> all = new TreeMap<>(kernel);
            boolean more = true;
            while (more) {
                more = false;
                for (int item : new ArrayList<>(all.keySet())) {
                    String row = right(item / 10);
                    int dot = item % 10;
                    if (dot == row.length() || Character.isLowerCase(row.charAt(dot))) {
                        continue;
                    }
                    int look = behind(item + 1, all.get(item));
                    for (int rule : rulesOf(row.charAt(dot))) {
                        int old = all.getOrDefault(rule * 10, 0);
                        if ((old | look) != old) {
                            all.put(rule * 10, old | look);
                            more = true;
                        }
                    }
                }
            }
            return all;
        }

        private final Map<Integer, Integer> behindFirst = new HashMap<>();
        private final Map<Integer, Boolean> behindEmpty = new HashMap<>();

        private int behind(int item, int look) {
            if (!behindFirst.containsKey(item)) {
                String row = right(item / 10).substring(item % 10);
                behindFirst.put(item, bits(first(row)));
                behindEmpty.put(item, allEmpty(row));
            }
            return behindFirst.get(item) | (behindEmpty.get(item) ? look : 0);
        }

        TreeMap<Integer, Integer> next(TreeMap<Integer, Integer> closure, int letter) {
            TreeMap<Integer, Integer> result = new TreeMap<>();
            for (Map.Entry<Integer, Integer> e : closure.entrySet()) {
                String row = right(e.getKey() / 10);
                int dot = e.getKey() % 10;
                if (dot < row.length() && code(row.charAt(dot)) == letter) {
                    result.put(e.getKey() + 1, e.getValue());
                }
            }
            return result;
        }

        void build(int kind) {
            TreeMap<Integer, Integer> start = new TreeMap<>();
            start.put(told.size() * 10, endBit());
            kernels.add(start);
            goes.add(new TreeMap<>());
            ArrayDeque<Integer> queue = new ArrayDeque<>();
            queue.add(0);
            while (!queue.isEmpty()) {
                int s = queue.poll();
                TreeMap<Integer, Integer> closure = closure(kernels.get(s));
                for (int letter : letters()) {
                    TreeMap<Integer, Integer> next = next(closure, letter);
                    if (next.isEmpty()) {
                        continue;
                    }
                    int goal = find(kind, next, goes.get(s).getOrDefault(letter, NONE));
                    if (goal == NONE) {
                        goal = kernels.size();
                        kernels.add(next);
                        goes.add(new TreeMap<>());
                        queue.add(goal);
                        if (kernels.size() > 200) {
                            there = false;
                            return;
                        }
                    } else if (kind != 0) {
                        boolean more = false;
                        for (int item : next.keySet()) {
                            int old = kernels.get(goal).get(item);
                            kernels.get(goal).put(item, old | next.get(item));
                            more |= (old | next.get(item)) != old;
                        }
                        if (more && !queue.contains(goal)) {
                            queue.add(goal);
                        }
                    }
                    goes.get(s).put(letter, goal);
                }
            }
            numberAnew();
        }

        private int find(int kind, TreeMap<Integer, Integer> next, int before) {
            List<Integer> order = new ArrayList<>();
            if (before != NONE) {
                order.add(before);
            }
            for (int t = 0; t < kernels.size(); t++) {
                order.add(t);
            }
            for (int t : order) {
                TreeMap<Integer, Integer> kernel = kernels.get(t);
                if (kernel.keySet().equals(next.keySet())
                    && (kind == 2 || kind == 1 && compatible(kernel, next) || kernel.equals(next))) {
                    return t;
                }
            }
            return NONE;
        }

        private boolean compatible(TreeMap<Integer, Integer> a, TreeMap<Integer, Integer> b) {
            for (int i : a.keySet()) {
                for (int j : a.keySet()) {
                    boolean apart = (a.get(i) & b.get(j)) == 0 && (a.get(j) & b.get(i)) == 0;
                    if (i != j && !apart && (a.get(i) & a.get(j)) == 0 && (b.get(i) & b.get(j)) == 0) {
                        return false;
                    }
                }
            }
            return true;
        }

        private void numberAnew() {
            List<Integer> order = new ArrayList<>(List.of(0));
            for (int i = 0; i < order.size(); i++) {
                for (int letter : letters()) {
                    Integer goal = goes.get(order.get(i)).get(letter);
                    if (goal != null && !order.contains(goal)) {
                        order.add(goal);
                    }
                }
            }
            List<TreeMap<Integer, Integer>> newKernels = new ArrayList<>();
            List<TreeMap<Integer, Integer>> newGoes = new ArrayList<>();
            for (int old : order) {
                newKernels.add(kernels.get(old));
                TreeMap<Integer, Integer> row = new TreeMap<>();
                goes.get(old).forEach((letter, goal) -> row.put(letter, order.indexOf(goal)));
                newGoes.add(row);
                closures.add(closure(kernels.get(old)));
            }
            kernels = newKernels;
            goes = newGoes;
        }

        /** All that can be done: numbers of actions, unsettled. */
        TreeSet<Integer> canDo(int state, int sign) {
            TreeSet<Integer> result = new TreeSet<>();
            if (sign < signs.size() && goes.get(state).containsKey(sign)) {
                result.add(1000 + goes.get(state).get(sign));
            }
            closures.get(state).forEach((item, look) -> {
                if (item % 10 == right(item / 10).length() && (look >> sign & 1) != 0) {
                    result.add(item / 10 == told.size() ? 999 : item / 10);
                }
            });
            return result;
        }

        private final Map<Integer, Integer> acts = new HashMap<>();

        /** Kept, since an act by hand makes all machines anew. */
        int act(int state, int sign) {
            return acts.computeIfAbsent(state * 10 + sign, key -> settled(state, sign));
        }

        private int settled(int state, int sign) {
            TreeSet<Integer> all = canDo(state, sign);
            if (all.isEmpty()) {
                return NONE;
            }
            if (all.contains(999)) {
                return 999;
            }
            return prefers.contains(sign) || all.last() < 999 ? all.first() : all.last();
        }

        int byDefault(int state) {
            int[] uses = new int[17];
            for (int sign = 0; sign <= signs.size(); sign++) {
                int act = act(state, sign);
                if (act >= 0 && act < 17) {
                    uses[act]++;
                }
            }
            int best = 0;
            for (int rule = 1; rule < 17; rule++) {
                best = uses[rule] > uses[best] ? rule : best;
            }
            return uses[best] == 0 ? NONE : best;
        }

        int conflicts(int state) {
            int bits = 0;
            for (int sign = 0; sign <= signs.size(); sign++) {
                bits |= canDo(state, sign).size() > 1 ? 1 << sign : 0;
            }
            return bits;
        }

        int bridge(int state, int name, int sign) {
            Integer goal = goes.get(state).get(100 + name);
            if (goal == null) {
                return NONE;
            }
            for (int times = 0; times < 6; times++) {
                int act = act(goal, sign);
                if (act < 0 || act >= 999 || !isUnit(act)) {
                    break;
                }
                Integer then = goes.get(state).get(100 + names.indexOf(left(act)));
                if (then == null) {
                    break;
                }
                goal = then;
            }
            return goal;
        }

        /** The least path by relaxing over and over, with no regard to how states are numbered. */
        List<Integer> path(int state) {
            Map<Integer, List<Integer>> best = new HashMap<>();
            best.put(0, new ArrayList<>());
            boolean more = true;
            while (more) {
                more = false;
                for (int s = 0; s < kernels.size(); s++) {
                    if (!best.containsKey(s)) {
                        continue;
                    }
                    for (Map.Entry<Integer, Integer> e : goes.get(s).entrySet()) {
                        List<Integer> way = new ArrayList<>(best.get(s));
                        way.add(e.getKey());
                        List<Integer> old = best.get(e.getValue());
                        if (old == null || less(way, old)) {
                            best.put(e.getValue(), way);
                            more = true;
                        }
                    }
                }
            }
            return best.get(state);
        }

        private boolean less(List<Integer> a, List<Integer> b) {
            if (a.size() != b.size()) {
                return a.size() < b.size();
            }
            for (int i = 0; i < a.size(); i++) {
                if (!a.get(i).equals(b.get(i))) {
                    return a.get(i) < b.get(i);
                }
            }
            return false;
        }
    }

    private List<Integer> letters() {
        List<Integer> result = new ArrayList<>();
        for (int i = 0; i < signs.size(); i++) {
            result.add(i);
        }
        for (int i = 0; i < names.size(); i++) {
            result.add(100 + i);
        }
        return result;
    }

    private Machine machine(int kind) {
        if (noGrammar() || kind < 0 || kind > 2) {
            return null;
        }
        Machine m = machines.get(kind);
        if (m == null) {
            m = new Machine();
            m.build(kind);
            machines.put(kind, m);
        }
        return m.there ? m : null;
    }

    int states(int kind) {
        Machine m = machine(kind);
        return m == null ? NONE : m.kernels.size();
    }

    private boolean isState(Machine m, int state) {
        return m != null && state >= 0 && state < m.kernels.size();
    }

    int look(int kind, int state, int rule, int dot, boolean closed) {
        Machine m = machine(kind);
        if (!isState(m, state) || rule < 0 || rule > told.size() || dot < 0 || dot > right(rule).length()) {
            return NONE;
        }
        return (closed ? m.closures : m.kernels).get(state).getOrDefault(rule * 10 + dot, 0);
    }

    int state(int kind, int state, int what) {
        Machine m = machine(kind);
        if (!isState(m, state)) {
            return NONE;
        }
        switch (what) {
            case 0: return m.kernels.get(state).size();
            case 1: return m.closures.get(state).size();
            case 2: return m.goes.get(state).size();
            case 3: return m.byDefault(state);
            case 4: return m.conflicts(state);
            case 5: return m.path(state).size();
            default: return NONE;
        }
    }

    int goesTo(int kind, int state, int letter) {
        Machine m = machine(kind);
        return isState(m, state) ? m.goes.get(state).getOrDefault(letter, NONE) : NONE;
    }

    int action(int kind, int state, int sign, boolean defaults) {
        Machine m = machine(kind);
        if (!isState(m, state) || sign < 0 || sign > signs.size()) {
            return HIDDEN;
        }
        int act = m.act(state, sign);
        return act == NONE && defaults ? m.byDefault(state) : act;
    }

    int bridge(int kind, int state, int name, int sign) {
        Machine m = machine(kind);
        if (!isState(m, state) || sign < 0 || sign > signs.size() || name < 0 || name >= names.size()) {
            return NONE;
        }
        return m.bridge(state, name, sign);
    }

    int counts(int kind, int what) {
        Machine m = machine(kind);
        if (m == null || what < 0 || what > 6) {
            return NONE;
        }
        int[] sums = new int[7];
        Map<Set<Integer>, Integer> cores = new HashMap<>();
        for (int s = 0; s < m.kernels.size(); s++) {
            sums[0] += Integer.bitCount(m.conflicts(s));
            sums[1] += m.conflicts(s) != 0 ? 1 : 0;
            cores.merge(m.kernels.get(s).keySet(), 1, Integer::sum);
            sums[4] += m.kernels.get(s).size();
            for (int sign = 0; sign <= signs.size(); sign++) {
                sums[5] += m.act(s, sign) != NONE ? 1 : 0;
            }
            sums[6] += m.byDefault(s) != NONE ? 1 : 0;
        }
        for (int n : cores.values()) {
            sums[2] += n > 1 ? 1 : 0;
            sums[3] = Math.max(sums[3], n);
        }
        return sums[what];
    }

    int path(int kind, int state, int i) {
        Machine m = machine(kind);
        if (!isState(m, state) || i < 0 || i >= m.path(state).size()) {
            return NONE;
        }
        return m.path(state).get(i);
    }

    // ---- reading

    private static final class Node {
        int rule = NONE;
        List<Integer> leaves = new ArrayList<>();
        int height;
        int readThen;
    }

    private final class Run {
        int ends = NONE;
        int steps;
        int read;
        List<Node> nodes = new ArrayList<>();
        List<Integer> row = new ArrayList<>(List.of(0));
        List<Node> letters = new ArrayList<>();
        List<Integer> keptRow = new ArrayList<>(List.of(0));

        /** Stops behind the sign at that place, if it comes so far (NONE: never). */
        void go(Machine m, int mode, List<Integer> word, int stop) {
            while (ends == NONE && read != stop) {
                int sign = read < word.size() ? word.get(read) : signs.size();
                int top = row.get(row.size() - 1);
                int act = sign == 99 ? NONE : m.act(top, sign);
                if (act == NONE && mode == 1) {
                    act = m.byDefault(top);
                }
                if (act == NONE) {
                    ends = 0;
                } else if (steps == 300) {
                    ends = 2;
                } else {
                    steps++;
                    doAct(m, mode, act, sign);
                }
            }
        }

        private void doAct(Machine m, int mode, int act, int sign) {
            if (act == 999) {
                ends = 1;
            } else if (act >= 1000) {
                if (row.size() == 100) {
                    ends = 2;
                    return;
                }
                Node leaf = new Node();
                leaf.leaves.add(read);
                row.add(act - 1000);
                letters.add(leaf);
                read++;
                keptRow = new ArrayList<>(row);
            } else {
                Node node = new Node();
                node.rule = act;
                node.readThen = read;
                node.height = 1;
                for (int i = 0; i < right(act).length(); i++) {
                    row.remove(row.size() - 1);
                    // a probe from a kept row has no letters to build with
                    Node part = letters.isEmpty() ? new Node() : letters.remove(letters.size() - 1);
                    node.leaves.addAll(part.leaves);
                    node.height = Math.max(node.height, 1 + part.height);
                }
                nodes.add(node);
                if (row.size() == 100) {
                    ends = 2;
                    return;
                }
                int top = row.get(row.size() - 1);
                int name = names.indexOf(left(act));
                row.add(mode == 2 ? m.bridge(top, name, sign) : m.goes.get(top).get(100 + name));
                letters.add(node);
            }
        }
    }

    private Run run(Machine m, int mode, List<Integer> word) {
        Run run = new Run();
        run.go(m, mode, word, NONE);
        return run;
    }

    private boolean well(Machine m, List<Integer> word) {
        return run(m, 0, word).ends == 1;
    }

    private Run runOf(int kind, int sentence, int mode) {
        Machine m = machine(kind);
        if (m == null || !isSentence(sentence) || mode < 0 || mode > 2) {
            return null;
        }
        return run(m, mode, numbers(sentences.get(sentence)));
    }

    int reads(int kind, int sentence, int mode, int what) {
        Run run = runOf(kind, sentence, mode);
        if (run == null || what < 0 || what > 3) {
            return NONE;
        }
        return new int[] {run.ends, run.steps, run.read, run.nodes.size()}[what];
    }

    int reduced(int kind, int sentence, int mode, int i) {
        Run run = runOf(kind, sentence, mode);
        return run == null || i < 0 || i >= run.nodes.size() ? NONE : run.nodes.get(i).rule;
    }

    int expects(int kind, int sentence) {
        Run run = runOf(kind, sentence, 0);
        if (run == null || run.ends != 0) {
            return NONE;
        }
        int bits = 0;
        for (int sign = 0; sign <= signs.size(); sign++) {
            Run probe = new Run();
            probe.row = new ArrayList<>(run.keptRow);
            List<Integer> word = sign == signs.size() ? List.of() : List.of(sign);
            probe.go(machine(kind), 0, word, 1);
            bits |= probe.ends == 1 || probe.read == 1 ? 1 << sign : 0;
        }
        return bits;
    }

    int mends(int kind, int sentence) {
        Run run = runOf(kind, sentence, 0);
        if (run == null) {
            return NONE;
        }
        if (run.ends == 1) {
            return HIDDEN;
        }
        Machine m = machine(kind);
        List<Integer> word = numbers(sentences.get(sentence));
        for (int place = 0; place <= word.size(); place++) {
            if (place < word.size()) {
                List<Integer> without = new ArrayList<>(word);
                without.remove(place);
                if (well(m, without)) {
                    return place * 100;
                }
                for (int sign = 0; sign < signs.size(); sign++) {
                    List<Integer> other = new ArrayList<>(word);
                    other.set(place, sign);
                    if (sign != word.get(place) && well(m, other)) {
                        return place * 100 + 1 + sign;
                    }
                }
            }
            for (int sign = 0; sign < signs.size() && word.size() < 24; sign++) {
                List<Integer> with = new ArrayList<>(word);
                with.add(place, sign);
                if (well(m, with)) {
                    return place * 100 + 20 + sign;
                }
            }
        }
        return NONE;
    }

    int tree(int kind, int sentence, int i, int what) {
        Run run = runOf(kind, sentence, 0);
        if (run == null || i < 0 || i >= run.nodes.size() || what < 0 || what > 2) {
            return NONE;
        }
        Node node = run.nodes.get(i);
        int ahead = node.leaves.isEmpty() ? node.readThen : Collections.min(node.leaves);
        return new int[] {node.leaves.size(), ahead, node.height}[what];
    }

    int sorts() {
        if (noGrammar()) {
            return NONE;
        }
        boolean selected = true;
        for (char name : names) {
            for (int one : rulesOf(name)) {
                for (int other : rulesOf(name)) {
                    selected &= one == other || (selects(one) & selects(other)) == 0;
                }
            }
        }
        int bits = selected ? 1 : 0;
        bits |= machine(2) != null && followsDo(machine(2)) ? 2 : 0;
        int[] kinds = {2, 1, 0};
        for (int i = 0; i < 3; i++) {
            bits |= counts(kinds[i], 0) == 0 ? 4 << i : 0;
        }
        return bits;
    }

    private int selects(int rule) {
        return bits(first(right(rule))) | (allEmpty(right(rule)) ? follow(left(rule)) : 0);
    }

    private boolean followsDo(Machine m) {
        for (int s = 0; s < m.kernels.size(); s++) {
            int[] things = new int[9];
            for (int sign = 0; sign < signs.size(); sign++) {
                things[sign] += m.goes.get(s).containsKey(sign) ? 1 : 0;
            }
            for (int item : m.closures.get(s).keySet()) {
                int rule = item / 10;
                if (item % 10 == right(rule).length()) {
                    int look = rule == told.size() ? endBit() : follow(left(rule));
                    for (int sign = 0; sign <= signs.size(); sign++) {
                        things[sign] += look >> sign & 1;
                    }
                }
            }
            if (Arrays.stream(things).anyMatch(n -> n > 1)) {
                return false;
            }
        }
        return true;
    }

    int same(int one, int other, int m) {
        Machine a = machine(one);
        Machine b = machine(other);
        if (a == null || b == null || m < 0 || m > 4) {
            return NONE;
        }
        List<List<Integer>> words = new ArrayList<>();
        words.add(List.of());
        for (int length = 0; length <= m; length++) {
            List<List<Integer>> longer = new ArrayList<>();
            for (List<Integer> word : words) {
                if (well(a, word) && !well(b, word)) {
                    StringBuilder digits = new StringBuilder("0");
                    word.forEach(sign -> digits.append(sign + 1));
                    return Integer.parseInt(digits.toString());
                }
                for (int sign = 0; sign < signs.size(); sign++) {
                    List<Integer> more = new ArrayList<>(word);
                    more.add(sign);
                    longer.add(more);
                }
            }
            words = longer;
        }
        return NONE;
    }

    // ---- words

    /** Null: there is none. */
    private String drawn(long seed) {
        if (noGrammar()) {
            return null;
        }
        BigInteger x = BigInteger.valueOf(seed);
        BigInteger round = BigInteger.ONE.shiftLeft(64);
        String row = "" + names.get(0);
        for (int times = 0; times < 200; times++) {
            int at = 0;
            while (at < row.length() && Character.isLowerCase(row.charAt(at))) {
                at++;
            }
            if (at == row.length()) {
                return row;
            }
            List<Integer> rules = rulesOf(row.charAt(at));
            if (rules.isEmpty()) {
                return null;
            }
            int rule = NONE;
            if (times < 12) {
                x = x.multiply(new BigInteger("6364136223846793005"))
                    .add(new BigInteger("1442695040888963407")).mod(round);
                rule = rules.get(x.shiftRight(33).mod(BigInteger.valueOf(rules.size())).intValue());
            } else {
                int best = NONE;
                for (int r : rules) {
                    int sum = 0;
                    for (char c : right(r).toCharArray()) {
                        int one = Character.isLowerCase(c) ? 1 : shortest(c);
                        sum = one == NONE || sum == NONE ? NONE : sum + one;
                    }
                    if (sum != NONE && (best == NONE || sum < best)) {
                        best = sum;
                        rule = r;
                    }
                }
                if (rule == NONE) {
                    return null;
                }
            }
            row = row.substring(0, at) + right(rule) + row.substring(at + 1);
            if (row.length() > 60) {
                return null;
            }
        }
        return row.chars().allMatch(Character::isLowerCase) ? row : null;
    }

    int word(long seed, int i) {
        String row = drawn(seed);
        if (row == null) {
            return NONE;
        }
        return i == NONE ? row.length() : i < 0 || i >= row.length() ? NONE : signs.indexOf(row.charAt(i));
    }

    int keep(long seed) {
        String row = drawn(seed);
        if (row == null || row.length() > 24 || sentences.size() == 4) {
            return NONE;
        }
        sentences.add(row);
        return sentences.size() - 1;
    }
}
