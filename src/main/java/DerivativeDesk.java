import java.util.Arrays;

/**
 * A desk for languages of words that are told by terms with or, and, not. Terms are derived by
 * letters until no new ones come; on the states found so all questions are answered.
 */
public final class DerivativeDesk {
    public static final int NONE = -1;

    private static final int SLOTS = 16;
    private static final int LETTERS = 4;
    private static final int MAX_LENGTH = 16;
    private static final int MAX_SLOT_SIZE = 100;
    private static final int MAX_STATE_SIZE = 300;
    private static final int MAX_STATES = 150;

    private static final int SORT_NONE = 0;
    private static final int SORT_EMPTY = 1;
    private static final int SORT_CLASS = 2;
    private static final int SORT_CAT = 3;
    private static final int SORT_OR = 4;
    private static final int SORT_AND = 5;
    private static final int SORT_NOT = 6;
    private static final int SORT_STAR = 7;

    // The ids of the terms that are always there: a class of letters has its letters as its id.
    private static final int NO_WORD = 0;
    private static final int EMPTY_WORD = 16;
    private static final int ALL_WORDS = 17;
    private static final int FIRST_MADE = 18;

    private static final int UNKNOWN = -1;
    // Far above the steps that any walk over a term of a state can need.
    private static final int MANY_STEPS = 1_000_000;

    private final int[] slots = new int[SLOTS];
    private final Terms terms = new Terms();
    private final Explorer explorer = new Explorer();
    private final WordCheck wordCheck = new WordCheck();
    private final Splitter splitter = new Splitter();
    private final Comparison comparison = new Comparison();
    private final WordCounts wordCounts = new WordCounts();

    public DerivativeDesk() {
        Arrays.fill(slots, NO_WORD);
    }

    public int letters(int s, int letters) throws IndexOutOfBoundsException, IllegalArgumentException {
        checkSlot(s);
        checkRange(letters, EMPTY_WORD);
        return put(s, letters);
    }

    public int join(int s, int a, int b, int how) throws IndexOutOfBoundsException, IllegalArgumentException {
        checkSlot(s);
        checkSlot(a);
        checkSlot(b);
        checkRange(how, 2);
        explorer.tidy(terms, slots);
        if (how == 0) {
            return put(s, terms.cat(slots[a], slots[b]));
        }
        return put(s, terms.both(how == 1 ? SORT_OR : SORT_AND, slots[a], slots[b]));
    }

    public int turn(int s, int a, int how) throws IndexOutOfBoundsException, IllegalArgumentException {
        checkSlot(s);
        checkSlot(a);
        checkRange(how, 1);
        explorer.tidy(terms, slots);
        return put(s, how == 0 ? terms.not(slots[a]) : terms.star(slots[a]));
    }

    public int derive(int s, int a, int letter) throws IndexOutOfBoundsException, IllegalArgumentException {
        checkSlot(s);
        checkSlot(a);
        checkRange(letter, LETTERS - 1);
        explorer.tidy(terms, slots);
        return put(s, terms.derivative(slots[a], letter));
    }

    public boolean similar(int a, int b) throws IndexOutOfBoundsException {
        checkSlot(a);
        checkSlot(b);
        return slots[a] == slots[b];
    }

    public boolean has(int a, int w, int n) throws IndexOutOfBoundsException, IllegalArgumentException {
        checkSlot(a);
        checkRange(n, MAX_LENGTH);
        return wordCheck.accepts(terms, slots[a], w, n);
    }

    public int states(int a) throws IndexOutOfBoundsException {
        checkSlot(a);
        return explorer.machineOf(a, terms, slots).count();
    }

    public int languages(int a) throws IndexOutOfBoundsException {
        checkSlot(a);
        Machine machine = explorer.machineOf(a, terms, slots);
        return machine.isTooLarge() ? NONE : splitter.countParts(machine);
    }

    public int equal(int a, int b) throws IndexOutOfBoundsException {
        checkSlot(a);
        checkSlot(b);
        comparison.forget();
        Machine first = explorer.machineOf(a, terms, slots);
        Machine second = explorer.machineOf(b, terms, slots);
        if (first.isTooLarge() || second.isTooLarge()) {
            return NONE;
        }
        return comparison.differ(first, second) ? 0 : 1;
    }

    public int witness(int i) {
        return i == -1 ? comparison.length() : comparison.letter(i);
    }

    public long words(int a, int n) throws IndexOutOfBoundsException, IllegalArgumentException {
        checkSlot(a);
        checkRange(n, MAX_LENGTH);
        Machine machine = explorer.machineOf(a, terms, slots);
        return machine.isTooLarge() ? NONE : wordCounts.ofLength(machine, n);
    }

    public int ends(int a) throws IndexOutOfBoundsException {
        checkSlot(a);
        Machine machine = explorer.machineOf(a, terms, slots);
        if (machine.isTooLarge()) {
            return NONE;
        }
        return wordCounts.isFinite(machine) ? 1 : 0;
    }

    public long find(int a, long k) throws IndexOutOfBoundsException {
        checkSlot(a);
        Machine machine = explorer.machineOf(a, terms, slots);
        return machine.isTooLarge() ? NONE : wordCounts.wordAt(machine, k);
    }

    public int look(int a, int what) throws IndexOutOfBoundsException {
        checkSlot(a);
        int term = slots[a];
        switch (what) {
            case 0:
                return terms.sortOf(term);
            case 1:
                return terms.sizeOf(term);
            case 2:
                return terms.isNullable(term) ? 1 : 0;
            case 3:
                return terms.countOf(term);
            case 4:
                return terms.sortOf(term) == SORT_CLASS ? term : 0;
            default:
                return NONE;
        }
    }

    private static void checkSlot(int slot) throws IndexOutOfBoundsException {
        if (slot < 0 || slot >= SLOTS) {
            throw new IndexOutOfBoundsException();
        }
    }

    private static void checkRange(int value, int highest) throws IllegalArgumentException {
        if (value < 0 || value > highest) {
            throw new IllegalArgumentException();
        }
    }

    private int put(int slot, int term) {
        int size = terms.sizeOf(term);
        if (size > MAX_SLOT_SIZE) {
            return NONE;
        }
        if (slots[slot] != term) {
            slots[slot] = term;
            explorer.forget(slot);
        }
        return size;
    }

    /** A row of numbers that grows. */
    private static final class Row {
        private int[] items = new int[64];
        private int count = 0;

        void clear() {
            count = 0;
        }

        int size() {
            return count;
        }

        int get(int index) {
            return items[index];
        }

        void add(int item) {
            if (count == items.length) {
                items = Arrays.copyOf(items, count * 2);
            }
            items[count] = item;
            count++;
        }

        void dropLast() {
            if (count > 0) {
                count--;
            }
        }

        /** Into a row in rising order; what is there already is not added again. */
        void addInOrder(int item) {
            int at = count;
            while (at > 0 && items[at - 1] > item) {
                at--;
            }
            if (at > 0 && items[at - 1] == item) {
                return;
            }
            if (count == items.length) {
                items = Arrays.copyOf(items, count * 2);
            }
            for (int i = count; i > at; i--) {
                items[i] = items[i - 1];
            }
            items[at] = item;
            count++;
        }
    }

    /** Gathers what an OR or an AND will have, by the rules for keeping these. */
    private static final class Gathering {
        private final Row own = new Row();
        private int sort = SORT_OR;
        private int classes = NONE;
        private boolean swallowed = false;

        void begin(int sortToBe) {
            own.clear();
            sort = sortToBe;
            classes = NONE;
            swallowed = false;
        }

        void take(int term) {
            if (term == swallower()) {
                swallowed = true;
            } else if (term < EMPTY_WORD && term != NO_WORD) {
                takeClass(term);
            } else if (term != neutral()) {
                own.addInOrder(term);
            }
        }

        private void takeClass(int letters) {
            if (classes == NONE) {
                classes = letters;
            } else {
                classes = sort == SORT_OR ? classes | letters : classes & letters;
            }
        }

        /** The one term that all come to, or UNKNOWN when two or more are left. */
        int single() {
            if (swallowed || classes == NO_WORD) {
                return swallower();
            }
            if (classes != NONE) {
                own.addInOrder(classes);
            }
            if (own.size() == 0) {
                return neutral();
            }
            return own.size() == 1 ? own.get(0) : UNKNOWN;
        }

        Row own() {
            return own;
        }

        private int swallower() {
            return sort == SORT_OR ? ALL_WORDS : NO_WORD;
        }

        private int neutral() {
            return sort == SORT_OR ? NO_WORD : ALL_WORDS;
        }
    }

    /**
     * All terms, similar ones once: so terms are similar when they have one id. What a term has
     * lies at lower ids than the term, and what OR and AND have is in rising order.
     */
    private static final class Terms {
        private static final int FIRST_ROOM = 1024;
        private static final int FIRST_KIDS_ROOM = 2048;
        // Below the first room, so that what nobody needs goes before rows grow.
        private static final int FIRST_LIMIT = 768;
        private static final int FIRST_KIDS_LIMIT = 1536;
        private static final int BUCKETS = 1024;
        private static final int BUCKET_SHIFT = 22;
        private static final int MIX = 0x9E3779B1;

        private int[] sort = new int[FIRST_ROOM];
        private int[] size = new int[FIRST_ROOM];
        private int[] nullable = new int[FIRST_ROOM];
        private int[] kidsFrom = new int[FIRST_ROOM];
        private int[] kidsCount = new int[FIRST_ROOM];
        private int[] hash = new int[FIRST_ROOM];
        private int[] link = new int[FIRST_ROOM];
        private int[] tag = new int[FIRST_ROOM];
        private int[] movedTo = new int[FIRST_ROOM];
        private int[] after = new int[FIRST_ROOM * LETTERS];
        private int[] kids = new int[FIRST_KIDS_ROOM];
        private final int[] heads = new int[BUCKETS];
        private final Row parts = new Row();
        private final Row spine = new Row();
        private final Row pending = new Row();
        private final Gathering gathering = new Gathering();
        private int used = FIRST_MADE;
        private int kidsUsed = 1;
        private int usedLimit = FIRST_LIMIT;
        private int kidsLimit = FIRST_KIDS_LIMIT;

        Terms() {
            Arrays.fill(heads, UNKNOWN);
            Arrays.fill(after, UNKNOWN);
            for (int term = 0; term < FIRST_MADE; term++) {
                sort[term] = SORT_CLASS;
                size[term] = 1;
            }
            sort[NO_WORD] = SORT_NONE;
            sort[EMPTY_WORD] = SORT_EMPTY;
            nullable[EMPTY_WORD] = 1;
            sort[ALL_WORDS] = SORT_NOT;
            size[ALL_WORDS] = 2;
            nullable[ALL_WORDS] = 1;
            kidsCount[ALL_WORDS] = 1;
            kids[0] = NO_WORD;
        }

        int sortOf(int term) {
            return sort[term];
        }

        int sizeOf(int term) {
            return size[term];
        }

        boolean isNullable(int term) {
            return nullable[term] == 1;
        }

        int countOf(int term) {
            return kidsCount[term];
        }

        int kid(int term, int index) {
            return kids[kidsFrom[term] + index];
        }

        /** A number that a walk left at a term; it is 0 or any earlier walk's, so who reads it tests it. */
        int tagOf(int term) {
            return tag[term];
        }

        void setTag(int term, int number) {
            tag[term] = number;
        }

        int cat(int first, int second) {
            if (first == NO_WORD || second == NO_WORD) {
                return NO_WORD;
            }
            if (first == EMPTY_WORD) {
                return second;
            }
            if (second == EMPTY_WORD) {
                return first;
            }
            spine.clear();
            int last = first;
            for (int step = 0; step < MANY_STEPS && sort[last] == SORT_CAT; step++) {
                spine.add(kid(last, 0));
                last = kid(last, 1);
            }
            spine.add(last);
            int made = second;
            for (int i = spine.size() - 1; i >= 0; i--) {
                parts.clear();
                parts.add(spine.get(i));
                parts.add(made);
                made = node(SORT_CAT, parts);
            }
            return made;
        }

        /** OR or AND of two. */
        int both(int sortToBe, int first, int second) {
            gathering.begin(sortToBe);
            gather(sortToBe, first);
            gather(sortToBe, second);
            return gathered(sortToBe);
        }

        int not(int term) {
            if (term == NO_WORD) {
                return ALL_WORDS;
            }
            if (sort[term] == SORT_NOT) {
                return kid(term, 0);
            }
            parts.clear();
            parts.add(term);
            return node(SORT_NOT, parts);
        }

        int star(int term) {
            if (term == NO_WORD || term == EMPTY_WORD) {
                return EMPTY_WORD;
            }
            if (sort[term] == SORT_STAR) {
                return term;
            }
            parts.clear();
            parts.add(term);
            return node(SORT_STAR, parts);
        }

        /** Derives what the term has before the term, without recursion: terms may be deep. */
        int derivative(int term, int letter) {
            pending.clear();
            pending.add(term);
            for (int step = 0; step < MANY_STEPS && pending.size() > 0; step++) {
                int top = pending.get(pending.size() - 1);
                if (after[top * LETTERS + letter] != UNKNOWN) {
                    pending.dropLast();
                } else if (!asksForMore(top, letter)) {
                    int made = combined(top, letter);
                    after[top * LETTERS + letter] = made;
                    pending.dropLast();
                }
            }
            return after[term * LETTERS + letter];
        }

        private boolean asksForMore(int term, int letter) {
            int before = pending.size();
            boolean firstOnly = sort[term] == SORT_CAT && nullable[kid(term, 0)] == 0;
            int needed = firstOnly ? 1 : kidsCount[term];
            for (int i = 0; i < needed; i++) {
                int part = kid(term, i);
                if (after[part * LETTERS + letter] == UNKNOWN) {
                    pending.add(part);
                }
            }
            return pending.size() > before;
        }

        private int combined(int term, int letter) {
            switch (sort[term]) {
                case SORT_CLASS:
                    return (term >> letter & 1) == 1 ? EMPTY_WORD : NO_WORD;
                case SORT_CAT:
                    int begun = cat(kidAfter(term, 0, letter), kid(term, 1));
                    if (nullable[kid(term, 0)] == 0) {
                        return begun;
                    }
                    gathering.begin(SORT_OR);
                    gather(SORT_OR, begun);
                    gather(SORT_OR, kidAfter(term, 1, letter));
                    return gathered(SORT_OR);
                case SORT_OR:
                case SORT_AND:
                    gathering.begin(sort[term]);
                    for (int i = 0; i < kidsCount[term]; i++) {
                        gather(sort[term], kidAfter(term, i, letter));
                    }
                    return gathered(sort[term]);
                case SORT_NOT:
                    return not(kidAfter(term, 0, letter));
                case SORT_STAR:
                    return cat(kidAfter(term, 0, letter), term);
                default:
                    return NO_WORD;
            }
        }

        private int kidAfter(int term, int index, int letter) {
            return after[kid(term, index) * LETTERS + letter];
        }

        private void gather(int sortToBe, int term) {
            if (sort[term] != sortToBe) {
                gathering.take(term);
                return;
            }
            for (int i = 0; i < kidsCount[term]; i++) {
                gathering.take(kid(term, i));
            }
        }

        private int gathered(int sortToBe) {
            int single = gathering.single();
            return single == UNKNOWN ? node(sortToBe, gathering.own()) : single;
        }

        /** The term of a sort that has these: the one that is there, or a new one. */
        private int node(int sortToBe, Row own) {
            int code = sortToBe;
            for (int i = 0; i < own.size(); i++) {
                code = (code + own.get(i)) * MIX;
            }
            int term = heads[code >>> BUCKET_SHIFT];
            for (int step = 0; step < used && term != UNKNOWN; step++) {
                if (hash[term] == code && sort[term] == sortToBe && hasJust(term, own)) {
                    return term;
                }
                term = link[term];
            }
            makeRoom(own.size());
            return addNode(sortToBe, own, code);
        }

        private boolean hasJust(int term, Row own) {
            if (kidsCount[term] != own.size()) {
                return false;
            }
            for (int i = 0; i < own.size(); i++) {
                if (kid(term, i) != own.get(i)) {
                    return false;
                }
            }
            return true;
        }

        private int addNode(int sortToBe, Row own, int code) {
            int term = used;
            used++;
            sort[term] = sortToBe;
            kidsFrom[term] = kidsUsed;
            kidsCount[term] = own.size();
            int total = 1;
            int nullables = 0;
            for (int i = 0; i < own.size(); i++) {
                int part = own.get(i);
                kids[kidsUsed] = part;
                kidsUsed++;
                total += size[part];
                nullables += nullable[part];
            }
            size[term] = total;
            nullable[term] = isNullableWith(sortToBe, nullables, own.size()) ? 1 : 0;
            for (int letter = 0; letter < LETTERS; letter++) {
                after[term * LETTERS + letter] = UNKNOWN;
            }
            tag[term] = 0;
            hash[term] = code;
            link[term] = heads[code >>> BUCKET_SHIFT];
            heads[code >>> BUCKET_SHIFT] = term;
            return term;
        }

        private static boolean isNullableWith(int sort, int nullables, int all) {
            switch (sort) {
                case SORT_STAR:
                    return true;
                case SORT_NOT:
                    return nullables == 0;
                case SORT_OR:
                    return nullables > 0;
                default:
                    return nullables == all;
            }
        }

        private void makeRoom(int moreKids) {
            if (kidsUsed + moreKids > kids.length) {
                kids = Arrays.copyOf(kids, (kidsUsed + moreKids) * 2);
            }
            if (used < sort.length) {
                return;
            }
            int room = used * 2;
            sort = Arrays.copyOf(sort, room);
            size = Arrays.copyOf(size, room);
            nullable = Arrays.copyOf(nullable, room);
            kidsFrom = Arrays.copyOf(kidsFrom, room);
            kidsCount = Arrays.copyOf(kidsCount, room);
            hash = Arrays.copyOf(hash, room);
            link = Arrays.copyOf(link, room);
            tag = Arrays.copyOf(tag, room);
            movedTo = Arrays.copyOf(movedTo, room);
            after = Arrays.copyOf(after, room * LETTERS);
        }

        /**
         * Drops terms that no row needs, when many have come since the last time; the rows get the
         * new ids. Twice of what is left is let come before the next time, so that this stays rare.
         */
        void tidy(int[] slots, int[] found, int foundCount) {
            if (used <= usedLimit && kidsUsed <= kidsLimit) {
                return;
            }
            Arrays.fill(movedTo, UNKNOWN);
            markRow(slots, slots.length);
            markRow(found, foundCount);
            markKids();
            numberMarked();
            moveMarked();
            renumber(slots, slots.length);
            renumber(found, foundCount);
            usedLimit = Math.max(FIRST_LIMIT, used * 2);
            kidsLimit = Math.max(FIRST_KIDS_LIMIT, kidsUsed * 2);
        }

        private void markRow(int[] row, int count) {
            for (int i = 0; i < count; i++) {
                movedTo[row[i]] = row[i];
            }
        }

        private void markKids() {
            for (int term = used - 1; term >= FIRST_MADE; term--) {
                for (int i = 0; movedTo[term] != UNKNOWN && i < kidsCount[term]; i++) {
                    movedTo[kid(term, i)] = term;
                }
            }
        }

        private void numberMarked() {
            int next = 0;
            for (int term = 0; term < used; term++) {
                if (term < FIRST_MADE || movedTo[term] != UNKNOWN) {
                    movedTo[term] = next;
                    next++;
                }
            }
        }

        private void moveMarked() {
            Arrays.fill(heads, UNKNOWN);
            int end = used;
            used = FIRST_MADE;
            kidsUsed = 1;
            for (int term = FIRST_MADE; term < end; term++) {
                if (movedTo[term] != UNKNOWN) {
                    move(term, used);
                    used++;
                }
            }
        }

        private void move(int from, int to) {
            int kidsTo = kidsUsed;
            for (int i = 0; i < kidsCount[from]; i++) {
                kids[kidsUsed] = movedTo[kid(from, i)];
                kidsUsed++;
            }
            kidsFrom[to] = kidsTo;
            kidsCount[to] = kidsCount[from];
            sort[to] = sort[from];
            size[to] = size[from];
            nullable[to] = nullable[from];
            tag[to] = tag[from];
            int code = sort[to];
            for (int i = 0; i < kidsCount[to]; i++) {
                code = (code + kid(to, i)) * MIX;
            }
            hash[to] = code;
            link[to] = heads[code >>> BUCKET_SHIFT];
            heads[code >>> BUCKET_SHIFT] = to;
            for (int letter = 0; letter < LETTERS; letter++) {
                int derived = after[from * LETTERS + letter];
                after[to * LETTERS + letter] = derived == UNKNOWN ? UNKNOWN : movedTo[derived];
            }
        }

        private void renumber(int[] row, int count) {
            for (int i = 0; i < count; i++) {
                row[i] = movedTo[row[i]];
            }
        }
    }

    /** The states of a term, 0 the term itself, with where each letter leads. */
    private static final class Machine {
        private final int[] next = new int[MAX_STATES * LETTERS];
        private final boolean[] accepting = new boolean[MAX_STATES];
        private int count = 0;

        boolean isKnown() {
            return count != 0;
        }

        boolean isTooLarge() {
            return count == NONE;
        }

        int count() {
            return count;
        }

        void setCount(int states) {
            count = states;
        }

        int next(int state, int letter) {
            return next[state * LETTERS + letter];
        }

        void setNext(int state, int letter, int to) {
            next[state * LETTERS + letter] = to;
        }

        boolean isAccepting(int state) {
            return accepting[state];
        }

        void setAccepting(int state, boolean accepts) {
            accepting[state] = accepts;
        }
    }

    /** Finds the states of the slots' terms, and keeps them until the slot changes. */
    private static final class Explorer {
        private final Machine[] machines = new Machine[SLOTS];
        private final int[] found = new int[MAX_STATES];

        Explorer() {
            for (int slot = 0; slot < SLOTS; slot++) {
                machines[slot] = new Machine();
            }
        }

        void forget(int slot) {
            machines[slot].setCount(0);
        }

        void tidy(Terms terms, int[] slots) {
            terms.tidy(slots, found, 0);
        }

        Machine machineOf(int slot, Terms terms, int[] slots) {
            Machine machine = machines[slot];
            if (machine.isKnown()) {
                return machine;
            }
            found[0] = slots[slot];
            terms.setTag(found[0], 0);
            int count = 1;
            for (int state = 0; state < count && state < MAX_STATES; state++) {
                machine.setAccepting(state, terms.isNullable(found[state]));
                for (int letter = 0; letter < LETTERS; letter++) {
                    terms.tidy(slots, found, count);
                    int derived = terms.derivative(found[state], letter);
                    int to = placeOf(derived, count, terms);
                    if (to == count) {
                        if (count == MAX_STATES || terms.sizeOf(derived) > MAX_STATE_SIZE) {
                            machine.setCount(NONE);
                            return machine;
                        }
                        found[count] = derived;
                        terms.setTag(derived, count);
                        count++;
                    }
                    machine.setNext(state, letter, to);
                }
            }
            machine.setCount(count);
            return machine;
        }

        /** Which of the states found a term is; their count when it is none of them. */
        private int placeOf(int term, int count, Terms terms) {
            int place = terms.tagOf(term);
            return place < count && found[place] == term ? place : count;
        }
    }

    /**
     * Tells whether a term has a word without derivatives, which may grow without bound here: for
     * each part of the term and each start in the word, the bits of where a word of the part ends.
     */
    private static final class WordCheck {
        private static final int STARTS = MAX_LENGTH + 1;

        private final int[] order = new int[MAX_SLOT_SIZE];
        private final int[] endBits = new int[MAX_SLOT_SIZE * STARTS];
        private final Row pending = new Row();
        private int count = 0;
        private int word = 0;
        private int length = 0;

        boolean accepts(Terms terms, int term, int bits, int letterCount) {
            word = bits;
            length = letterCount;
            arrange(terms, term);
            for (int place = 0; place < count; place++) {
                // From the back, as a star goes on at later starts of its own.
                for (int start = length; start >= 0; start--) {
                    endBits[place * STARTS + start] = endsFrom(terms, place, start);
                }
            }
            return (endBitsOf(terms, term, 0) >> length & 1) == 1;
        }

        /** Puts all parts of the term in an order in which what a term has comes before it. */
        private void arrange(Terms terms, int term) {
            count = 0;
            pending.clear();
            pending.add(term);
            for (int step = 0; step < MANY_STEPS && pending.size() > 0; step++) {
                int top = pending.get(pending.size() - 1);
                if (isArranged(terms, top)) {
                    pending.dropLast();
                } else if (!asksForMore(terms, top) && count < MAX_SLOT_SIZE) {
                    order[count] = top;
                    terms.setTag(top, count);
                    count++;
                    pending.dropLast();
                }
            }
        }

        private boolean isArranged(Terms terms, int term) {
            int place = terms.tagOf(term);
            return place < count && order[place] == term;
        }

        private boolean asksForMore(Terms terms, int term) {
            int before = pending.size();
            for (int i = 0; i < terms.countOf(term); i++) {
                if (!isArranged(terms, terms.kid(term, i))) {
                    pending.add(terms.kid(term, i));
                }
            }
            return pending.size() > before;
        }

        private int endsFrom(Terms terms, int place, int start) {
            int term = order[place];
            int here = 1 << start;
            switch (terms.sortOf(term)) {
                case SORT_EMPTY:
                    return here;
                case SORT_CLASS:
                    return start < length && (term >> letterAt(start) & 1) == 1 ? here << 1 : 0;
                case SORT_CAT:
                    return goneOn(terms, endBitsOf(terms, terms.kid(term, 0), start), terms.kid(term, 1));
                case SORT_OR:
                case SORT_AND:
                    return merged(terms, term, start);
                case SORT_NOT:
                    int allEnds = (1 << length + 1) - here;
                    return allEnds & ~endBitsOf(terms, terms.kid(term, 0), start);
                case SORT_STAR:
                    return here | goneOn(terms, endBitsOf(terms, terms.kid(term, 0), start) & ~here, term);
                default:
                    return 0;
            }
        }

        private int letterAt(int index) {
            return word >>> 2 * (length - 1 - index) & 3;
        }

        private int endBitsOf(Terms terms, int term, int start) {
            return endBits[terms.tagOf(term) * STARTS + start];
        }

        /** Where a word of the term ends that starts at one of these places. */
        private int goneOn(Terms terms, int starts, int term) {
            int ends = 0;
            for (int start = 0; start <= length; start++) {
                if ((starts >> start & 1) == 1) {
                    ends |= endBitsOf(terms, term, start);
                }
            }
            return ends;
        }

        private int merged(Terms terms, int term, int start) {
            int ends = endBitsOf(terms, terms.kid(term, 0), start);
            for (int i = 1; i < terms.countOf(term); i++) {
                int more = endBitsOf(terms, terms.kid(term, i), start);
                ends = terms.sortOf(term) == SORT_OR ? ends | more : ends & more;
            }
            return ends;
        }
    }

    /** Counts the languages of a machine's states: splits them until no letter splits further. */
    private static final class Splitter {
        private final int[] part = new int[MAX_STATES];
        private final int[] newPart = new int[MAX_STATES];
        private final int[] heads = new int[MAX_STATES];
        private final int[] link = new int[MAX_STATES];
        private final int[] target = new int[MAX_STATES];

        int countParts(Machine machine) {
            int parts = splitByEmptyWord(machine);
            for (int round = 0; round < MAX_STATES; round++) {
                int before = parts;
                for (int letter = 0; letter < LETTERS; letter++) {
                    parts = splitByLetter(machine, letter, parts);
                }
                if (parts == before) {
                    break;
                }
            }
            return parts;
        }

        private int splitByEmptyWord(Machine machine) {
            int parts = 1;
            for (int state = 0; state < machine.count(); state++) {
                boolean asFirst = machine.isAccepting(state) == machine.isAccepting(0);
                part[state] = asFirst ? 0 : 1;
                parts = asFirst ? parts : 2;
            }
            return parts;
        }

        /** Each old part has a list of the new ones it falls into, by the old part the letter leads to. */
        private int splitByLetter(Machine machine, int letter, int parts) {
            for (int old = 0; old < parts; old++) {
                heads[old] = UNKNOWN;
            }
            int made = 0;
            for (int state = 0; state < machine.count(); state++) {
                int to = part[machine.next(state, letter)];
                int entry = entryFor(part[state], to, made);
                if (entry == made) {
                    target[made] = to;
                    link[made] = heads[part[state]];
                    heads[part[state]] = made;
                    made++;
                }
                newPart[state] = entry;
            }
            System.arraycopy(newPart, 0, part, 0, machine.count());
            return made;
        }

        private int entryFor(int oldPart, int to, int made) {
            int entry = heads[oldPart];
            for (int step = 0; step < made && entry != UNKNOWN; step++) {
                if (target[entry] == to) {
                    return entry;
                }
                entry = link[entry];
            }
            return made;
        }
    }

    /**
     * Looks for the least word that only one of two machines has. Pairs of states are reached in
     * the order of their least words. A pair whose states earlier pairs link is left out: a word
     * that tells its two apart tells the two of one of those earlier pairs apart, so the least word
     * goes by that one. Each pair kept links two groups of states, so there are fewer than states.
     */
    private static final class Comparison {
        private static final int ROOM = 2 * MAX_STATES;

        private final int[] leader = new int[ROOM];
        private final int[] left = new int[ROOM];
        private final int[] right = new int[ROOM];
        private final int[] cameFrom = new int[ROOM];
        private final int[] cameBy = new int[ROOM];
        private final int[] word = new int[ROOM];
        private int pairs = 0;
        private int length = NONE;

        void forget() {
            length = NONE;
        }

        int length() {
            return length;
        }

        int letter(int index) {
            return index >= 0 && index < length ? word[index] : NONE;
        }

        boolean differ(Machine first, Machine second) {
            begin(first.count() + second.count());
            if (isNewPair(0, 0, first.count()) && isSplit(first, second, NONE, NONE)) {
                return true;
            }
            for (int at = 0; at < pairs && at < ROOM; at++) {
                for (int letter = 0; letter < LETTERS; letter++) {
                    int a = first.next(left[at], letter);
                    int b = second.next(right[at], letter);
                    if (isNewPair(a, b, first.count()) && isSplit(first, second, at, letter)) {
                        return true;
                    }
                }
            }
            return false;
        }

        private void begin(int states) {
            pairs = 0;
            for (int state = 0; state < states; state++) {
                leader[state] = state;
            }
        }

        /** Whether the pair links two groups; if so, it is put at the end of the row. */
        private boolean isNewPair(int a, int b, int firstCount) {
            int groupOfA = leaderOf(a);
            int groupOfB = leaderOf(firstCount + b);
            if (groupOfA == groupOfB || pairs == ROOM) {
                return false;
            }
            leader[groupOfA] = groupOfB;
            left[pairs] = a;
            right[pairs] = b;
            return true;
        }

        private int leaderOf(int state) {
            int at = state;
            for (int step = 0; step < ROOM && leader[at] != at; step++) {
                leader[at] = leader[leader[at]];
                at = leader[at];
            }
            return at;
        }

        /** Completes the newest pair; whether only one of its two has the empty word. */
        private boolean isSplit(Machine first, Machine second, int from, int letter) {
            int newest = pairs;
            cameFrom[newest] = from;
            cameBy[newest] = letter;
            pairs++;
            if (first.isAccepting(left[newest]) == second.isAccepting(right[newest])) {
                return false;
            }
            keepWordTo(newest);
            return true;
        }

        private void keepWordTo(int pair) {
            length = 0;
            for (int at = pair; cameFrom[at] != NONE && length < ROOM; at = cameFrom[at]) {
                length++;
            }
            int at = pair;
            for (int i = length - 1; i >= 0; i--) {
                word[i] = cameBy[at];
                at = cameFrom[at];
            }
        }
    }

    /** Counts a machine's words by their length. */
    private static final class WordCounts {
        private static final long LENGTH_UNIT = 1L << 36;

        private final long[] counts = new long[(MAX_LENGTH + 1) * MAX_STATES];
        private boolean[] live = new boolean[MAX_STATES];
        private boolean[] nextLive = new boolean[MAX_STATES];

        long ofLength(Machine machine, int length) {
            fill(machine, length);
            return counts[length * MAX_STATES];
        }

        private void fill(Machine machine, int longest) {
            for (int state = 0; state < machine.count(); state++) {
                counts[state] = machine.isAccepting(state) ? 1 : 0;
            }
            for (int length = 1; length <= longest; length++) {
                for (int state = 0; state < machine.count(); state++) {
                    long sum = 0;
                    for (int letter = 0; letter < LETTERS; letter++) {
                        sum += counts[(length - 1) * MAX_STATES + machine.next(state, letter)];
                    }
                    counts[length * MAX_STATES + state] = sum;
                }
            }
        }

        long wordAt(Machine machine, long index) {
            if (index < 0) {
                return NONE;
            }
            fill(machine, MAX_LENGTH);
            long left = index;
            for (int length = 0; length <= MAX_LENGTH; length++) {
                long count = counts[length * MAX_STATES];
                if (left < count) {
                    return length * LENGTH_UNIT + wordOfLength(machine, length, left);
                }
                left -= count;
            }
            return NONE;
        }

        private long wordOfLength(Machine machine, int length, long index) {
            long word = 0;
            long left = index;
            int state = 0;
            for (int rest = length - 1; rest >= 0; rest--) {
                int letter = 0;
                long count = counts[rest * MAX_STATES + machine.next(state, 0)];
                while (letter < LETTERS - 1 && left >= count) {
                    left -= count;
                    letter++;
                    count = counts[rest * MAX_STATES + machine.next(state, letter)];
                }
                word = word << 2 | letter;
                state = machine.next(state, letter);
            }
            return word;
        }

        /**
         * Every state is reached from the first one. So there are infinitely many words just when
         * some state has a word of as many letters as there are states: it goes round a circle.
         */
        boolean isFinite(Machine machine) {
            int count = machine.count();
            boolean any = false;
            for (int state = 0; state < count; state++) {
                live[state] = machine.isAccepting(state);
                any = any || live[state];
            }
            for (int length = 1; any && length <= count; length++) {
                any = stepBack(machine);
            }
            return !any;
        }

        private boolean stepBack(Machine machine) {
            boolean any = false;
            for (int state = 0; state < machine.count(); state++) {
                boolean leads = false;
                for (int letter = 0; letter < LETTERS; letter++) {
                    leads = leads || live[machine.next(state, letter)];
                }
                nextLive[state] = leads;
                any = any || leads;
            }
            boolean[] spare = live;
            live = nextLive;
            nextLive = spare;
            return any;
        }
    }
}
