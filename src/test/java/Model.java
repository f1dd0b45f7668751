import java.util.ArrayDeque;
import java.util.ArrayList;
import java.util.Arrays;
import java.util.HashMap;
import java.util.HashSet;
import java.util.List;
import java.util.Map;
import java.util.Set;
import java.util.TreeMap;

/**
 * A slow and plain reading of the document, by trees and texts, to compare the program with. An
 * answer beginning with '!' names the exception that is due.
 */
final class Model {
    static final int NO = 0;
    static final int EMPTY = 1;
    static final int CLASS = 2;
    static final int CAT = 3;
    static final int OR = 4;
    static final int AND = 5;
    static final int NOT = 6;
    static final int STAR = 7;

    static final String INDEX = "!IndexOutOfBoundsException";
    static final String ARGUMENT = "!IllegalArgumentException";

    /** A kept term; terms with one key are similar. */
    static final class Term {
        final int sort;
        final int mask;
        final List<Term> own;
        final String key;
        final int size;
        final boolean nullable;

        Term(int sort, int mask, List<Term> own) {
            this.sort = sort;
            this.mask = mask;
            this.own = own;
            List<String> keys = new ArrayList<>();
            int total = 1;
            boolean all = true;
            boolean any = false;
            for (Term term : own) {
                keys.add(term.key);
                total += term.size;
                all &= term.nullable;
                any |= term.nullable;
            }
            if (sort == OR || sort == AND) {
                keys.sort(null);
            }
            key = "NECcoans".charAt(sort) + (sort == CLASS ? Integer.toHexString(mask) : "")
                + (own.isEmpty() ? "" : "(" + String.join(" ", keys) + ")");
            size = total;
            nullable = sort == EMPTY || sort == STAR || sort == OR && any || sort == NOT && !any
                || (sort == AND || sort == CAT) && all;
        }
    }

    static final Term NONE = new Term(NO, 0, List.of());
    static final Term EPSILON = new Term(EMPTY, 0, List.of());
    static final Term ALL = new Term(NOT, 0, List.of(NONE));

    private final Term[] slots = new Term[16];
    private final Map<String, Machine> machines = new HashMap<>();
    private String witness = null;

    Model() {
        Arrays.fill(slots, NONE);
    }

    static Term letterClass(int mask) {
        return mask == 0 ? NONE : new Term(CLASS, mask, List.of());
    }

    static Term many(int sort, List<Term> given) {
        List<Term> flat = new ArrayList<>();
        for (Term term : given) {
            if (term.sort == sort) {
                flat.addAll(term.own);
            } else {
                flat.add(term);
            }
        }
        List<Term> merged = new ArrayList<>();
        int mask = sort == OR ? 0 : 15;
        boolean classes = false;
        for (Term term : flat) {
            if (term.sort == CLASS) {
                classes = true;
                mask = sort == OR ? mask | term.mask : mask & term.mask;
            } else {
                merged.add(term);
            }
        }
        if (classes) {
            merged.add(letterClass(mask));
        }
        Term neutral = sort == OR ? NONE : ALL;
        Term strong = sort == OR ? ALL : NONE;
        TreeMap<String, Term> left = new TreeMap<>();
        for (Term term : merged) {
            left.put(term.key, term);
        }
        left.remove(neutral.key);
        if (left.containsKey(strong.key)) {
            return strong;
        }
        if (left.isEmpty()) {
            return neutral;
        }
        return left.size() == 1 ? left.firstEntry().getValue() : new Term(sort, 0, new ArrayList<>(left.values()));
    }

    static Term cat(Term a, Term b) {
        if (a.sort == NO || b.sort == NO) {
            return NONE;
        }
        if (a.sort == EMPTY) {
            return b;
        }
        if (b.sort == EMPTY) {
            return a;
        }
        if (a.sort == CAT) {
            return cat(a.own.get(0), cat(a.own.get(1), b));
        }
        return new Term(CAT, 0, List.of(a, b));
    }

    static Term not(Term a) {
        return a.sort == NOT ? a.own.get(0) : new Term(NOT, 0, List.of(a));
    }

    static Term star(Term a) {
        if (a.sort == STAR) {
            return a;
        }
        return a.sort == NO || a.sort == EMPTY ? EPSILON : new Term(STAR, 0, List.of(a));
    }

    static Term derived(Term t, int letter) {
        switch (t.sort) {
            case CLASS:
                return (t.mask >> letter & 1) == 1 ? EPSILON : NONE;
            case CAT:
                Term begun = cat(derived(t.own.get(0), letter), t.own.get(1));
                return t.own.get(0).nullable ? many(OR, List.of(begun, derived(t.own.get(1), letter))) : begun;
            case OR:
            case AND:
                List<Term> all = new ArrayList<>();
                for (Term term : t.own) {
                    all.add(derived(term, letter));
                }
                return many(t.sort, all);
            case NOT:
                return not(derived(t.own.get(0), letter));
            case STAR:
                return cat(derived(t.own.get(0), letter), t);
            default:
                return NONE;
        }
    }

    /** Straight from what the terms are said to have. */
    static boolean matches(Term t, String word, Map<String, Boolean> known) {
        String question = t.key + "|" + word;
        Boolean answer = known.get(question);
        if (answer == null) {
            answer = matchesAnew(t, word, known);
            known.put(question, answer);
        }
        return answer;
    }

    private static boolean matchesAnew(Term t, String word, Map<String, Boolean> known) {
        switch (t.sort) {
            case NO:
                return false;
            case EMPTY:
                return word.isEmpty();
            case CLASS:
                return word.length() == 1 && (t.mask >> word.charAt(0) - '0' & 1) == 1;
            case CAT:
                for (int i = 0; i <= word.length(); i++) {
                    if (matches(t.own.get(0), word.substring(0, i), known)
                        && matches(t.own.get(1), word.substring(i), known)) {
                        return true;
                    }
                }
                return false;
            case OR:
                return t.own.stream().anyMatch(term -> matches(term, word, known));
            case AND:
                return t.own.stream().allMatch(term -> matches(term, word, known));
            case NOT:
                return !matches(t.own.get(0), word, known);
            default:
                for (int i = 1; i <= word.length(); i++) {
                    if (matches(t.own.get(0), word.substring(0, i), known)
                        && matches(t, word.substring(i), known)) {
                        return true;
                    }
                }
                return word.isEmpty();
        }
    }

    static final class Machine {
        final List<Term> states = new ArrayList<>();
        final List<int[]> next = new ArrayList<>();
        boolean tooLarge = false;

        Machine(Term start) {
            Map<String, Integer> places = new HashMap<>();
            places.put(start.key, 0);
            states.add(start);
            for (int i = 0; i < states.size(); i++) {
                int[] row = new int[4];
                next.add(row);
                for (int letter = 0; letter < 4; letter++) {
                    Term to = derived(states.get(i), letter);
                    Integer place = places.get(to.key);
                    if (place == null) {
                        place = states.size();
                        places.put(to.key, place);
                        states.add(to);
                        if (to.size > 300 || states.size() > 150) {
                            tooLarge = true;
                            return;
                        }
                    }
                    row[letter] = place;
                }
            }
        }

        boolean accepts(int state) {
            return states.get(state).nullable;
        }

        int languages() {
            int n = states.size();
            boolean[][] apart = new boolean[n][n];
            for (int i = 0; i < n; i++) {
                for (int j = 0; j < n; j++) {
                    apart[i][j] = accepts(i) != accepts(j);
                }
            }
            boolean changed = true;
            while (changed) {
                changed = false;
                for (int i = 0; i < n; i++) {
                    for (int j = 0; j < n; j++) {
                        for (int letter = 0; letter < 4 && !apart[i][j]; letter++) {
                            if (apart[next.get(i)[letter]][next.get(j)[letter]]) {
                                apart[i][j] = true;
                                changed = true;
                            }
                        }
                    }
                }
            }
            int count = 0;
            for (int i = 0; i < n; i++) {
                boolean first = true;
                for (int j = 0; j < i; j++) {
                    first &= apart[i][j];
                }
                count += first ? 1 : 0;
            }
            return count;
        }

        long words(int state, int n) {
            long[] counts = new long[states.size()];
            for (int i = 0; i < counts.length; i++) {
                counts[i] = accepts(i) ? 1 : 0;
            }
            for (int length = 0; length < n; length++) {
                long[] more = new long[counts.length];
                for (int i = 0; i < counts.length; i++) {
                    for (int to : next.get(i)) {
                        more[i] += counts[to];
                    }
                }
                counts = more;
            }
            return counts[state];
        }

        boolean isFinite() {
            for (int i = 0; i < states.size(); i++) {
                Set<Integer> from = new HashSet<>();
                for (int to : next.get(i)) {
                    from.addAll(reached(to));
                }
                if (from.contains(i) && from.stream().anyMatch(this::accepts)) {
                    return false;
                }
            }
            return true;
        }

        private final Map<Integer, Set<Integer>> reachedBefore = new HashMap<>();

        private Set<Integer> reached(int start) {
            return reachedBefore.computeIfAbsent(start, s -> {
                Set<Integer> seen = new HashSet<>();
                ArrayDeque<Integer> todo = new ArrayDeque<>();
                seen.add(s);
                todo.add(s);
                while (!todo.isEmpty()) {
                    for (int to : next.get(todo.remove())) {
                        if (seen.add(to)) {
                            todo.add(to);
                        }
                    }
                }
                return seen;
            });
        }

        /** Letter by letter over all words of a length, by counts of how each can go on. */
        String wordAt(long k) {
            for (int length = 0; length <= 16; length++) {
                long here = words(0, length);
                if (k < here) {
                    StringBuilder word = new StringBuilder();
                    int state = 0;
                    for (int rest = length - 1; rest >= 0; rest--) {
                        for (int letter = 0; letter < 4; letter++) {
                            long count = words(next.get(state)[letter], rest);
                            if (k < count) {
                                word.append(letter);
                                state = next.get(state)[letter];
                                break;
                            }
                            k -= count;
                        }
                    }
                    return word.toString();
                }
                k -= here;
            }
            return null;
        }
    }

    /** The least word that only one has, by all pairs of states; null when there is none. */
    static String leastDifference(Machine a, Machine b) {
        Map<Integer, String> words = new HashMap<>();
        ArrayDeque<Integer> todo = new ArrayDeque<>();
        words.put(0, "");
        todo.add(0);
        while (!todo.isEmpty()) {
            int pair = todo.remove();
            int i = pair / 1000;
            int j = pair % 1000;
            String word = words.get(pair);
            if (a.accepts(i) != b.accepts(j)) {
                return word;
            }
            for (int letter = 0; letter < 4; letter++) {
                int to = a.next.get(i)[letter] * 1000 + b.next.get(j)[letter];
                if (!words.containsKey(to)) {
                    words.put(to, word + letter);
                    todo.add(to);
                }
            }
        }
        return null;
    }

    static String wordOf(int w, int n) {
        StringBuilder word = new StringBuilder();
        for (int i = n - 1; i >= 0; i--) {
            word.append((long) w >> 2 * i & 3);
        }
        return word.toString();
    }

    private Machine machine(int slot) {
        return machines.computeIfAbsent(slots[slot].key, key -> new Machine(slots[slot]));
    }

    Term term(int slot) {
        return slots[slot];
    }

    private static boolean isSlot(long slot) {
        return slot >= 0 && slot < 16;
    }

    private String set(int slot, Term term) {
        if (term.size > 100) {
            return "-1";
        }
        slots[slot] = term;
        return "" + term.size;
    }

    /** Whether a call would put a small term in place of a larger one: runs of these tell little. */
    boolean wouldLoseMuch(String name, long[] x) {
        if (!List.of("letters", "join", "turn", "derive").contains(name) || !isSlot(x[0])) {
            return false;
        }
        int slot = (int) x[0];
        Term before = slots[slot];
        answer(name, x);
        boolean loses = slots[slot].size < before.size && slots[slot].size < 5;
        slots[slot] = before;
        return loses;
    }

    /** The answer to a call by the name of its method. */
    String answer(String name, long[] x) {
        int slotCount = name.equals("join") ? 3
            : List.of("turn", "derive", "similar", "equal").contains(name) ? 2 : name.equals("witness") ? 0 : 1;
        for (int i = 0; i < slotCount; i++) {
            if (!isSlot(x[i])) {
                return INDEX;
            }
        }
        int s = (int) x[0];
        switch (name) {
            case "letters":
                if (x[1] < 0 || x[1] > 16) {
                    return ARGUMENT;
                }
                return set(s, x[1] == 16 ? EPSILON : letterClass((int) x[1]));
            case "join":
                if (x[3] < 0 || x[3] > 2) {
                    return ARGUMENT;
                }
                Term a = slots[(int) x[1]];
                Term b = slots[(int) x[2]];
                return set(s, x[3] == 0 ? cat(a, b) : many(x[3] == 1 ? OR : AND, List.of(a, b)));
            case "turn":
                if (x[2] < 0 || x[2] > 1) {
                    return ARGUMENT;
                }
                return set(s, x[2] == 0 ? not(slots[(int) x[1]]) : star(slots[(int) x[1]]));
            case "derive":
                if (x[2] < 0 || x[2] > 3) {
                    return ARGUMENT;
                }
                return set(s, derived(slots[(int) x[1]], (int) x[2]));
            case "similar":
                return slots[s].key.equals(slots[(int) x[1]].key) ? "1" : "0";
            case "has":
                if (x[2] < 0 || x[2] > 16) {
                    return ARGUMENT;
                }
                return matches(slots[s], wordOf((int) x[1], (int) x[2]), new HashMap<>()) ? "1" : "0";
            case "equal":
                return equal(machine(s), machine((int) x[1]));
            case "witness":
                if (witness == null) {
                    return "-1";
                }
                if (x[0] == -1) {
                    return "" + witness.length();
                }
                return x[0] >= 0 && x[0] < witness.length() ? "" + witness.charAt((int) x[0]) : "-1";
            case "look":
                return "" + look(slots[s], x[1]);
            case "words":
                if (x[1] < 0 || x[1] > 16) {
                    return ARGUMENT;
                }
                return machine(s).tooLarge ? "-1" : "" + machine(s).words(0, (int) x[1]);
            default:
                return machine(s).tooLarge ? "-1" : "" + ofMachine(name, machine(s), x);
        }
    }

    private String equal(Machine a, Machine b) {
        witness = null;
        if (a.tooLarge || b.tooLarge) {
            return "-1";
        }
        witness = leastDifference(a, b);
        return witness == null ? "1" : "0";
    }

    private static long ofMachine(String name, Machine machine, long[] x) {
        switch (name) {
            case "states":
                return machine.states.size();
            case "languages":
                return machine.languages();
            case "ends":
                return machine.isFinite() ? 1 : 0;
            case "find":
                String word = x[1] < 0 ? null : machine.wordAt(x[1]);
                if (word == null) {
                    return -1;
                }
                return (word.isEmpty() ? 0 : Long.parseLong(word, 4)) + (word.length() * (1L << 36));
            default:
                throw new IllegalStateException(name);
        }
    }

    private static int look(Term term, long what) {
        return what == 0 ? term.sort
            : what == 1 ? term.size
            : what == 2 ? (term.nullable ? 1 : 0)
            : what == 3 ? term.own.size()
            : what == 4 ? term.mask
            : -1;
    }
}
