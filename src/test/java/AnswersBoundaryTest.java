/** The answers that promises 1 and 6 to 15 name at their boundaries: a test of its own for each sentence. */
public final class AnswersBoundaryTest {
    private static final long UNIT = 1L << 36;

    /** Words whose length 2, 3 and 25 divide: 150 states, the most that are not too large. */
    private static final String MOST_STATES = "(" + cycle(2) + "&" + cycle(3) + "&" + cycle(25) + ")";

    private final Checks checks = new Checks();

    public static void main(String[] args) {
        AnswersBoundaryTest test = new AnswersBoundaryTest();
        test.newObject();
        test.objectsAreApart();
        test.similarOfASlotAndItself();
        test.hasOfNoLetters();
        test.hasOfSixteenLetters();
        test.hasFirstLetterHighest();
        test.hasOfTooLarge();
        test.statesOfSmallest();
        test.statesOfMost();
        test.statesOfLargest();
        test.statesFollowTheSlot();
        test.lastOfMostStates();
        test.languagesOfFewest();
        test.languagesOfMost();
        test.languagesOfTooLarge();
        test.equalOfTheSame();
        test.equalOfOthers();
        test.equalOfTooLarge();
        test.witnessNotAsked();
        test.witnessOfTheEmptyWord();
        test.witnessPlaces();
        test.witnessAfterEqual();
        test.witnessAfterTooLarge();
        test.witnessOfTheLatest();
        test.witnessStays();
        test.witnessAfterThrown();
        test.witnessIsLeast();
        test.witnessOfManyLetters();
        test.wordsOfNoLetters();
        test.wordsOfSixteenLetters();
        test.wordsOfTooLarge();
        test.endsWithFew();
        test.endsWithLong();
        test.endsNot();
        test.endsOfTooLarge();
        test.findFirstAndLast();
        test.findBeforeTheFirst();
        test.findOfSixteenLetters();
        test.findOfMoreLetters();
        test.findOfTooLarge();
        test.lookAtEachSort();
        test.lookAtOthers();
        test.lookAtTooLarge();
        test.checks.end();
    }

    private static String cycle(int length) {
        return "(" + ".".repeat(length) + ")*";
    }

    private static CountedDesk with(String... texts) {
        CountedDesk desk = new CountedDesk();
        for (int slot = 0; slot < texts.length; slot++) {
            desk.tell(slot, texts[slot]);
        }
        return desk;
    }

    /** Slot 0: 151 states. Slot 1: few states, one of them of size 301. Slot 2: 256 states. */
    private static CountedDesk withTooLarge() {
        CountedDesk desk = with("." + MOST_STATES, "0*0*0*1*1*0*" + "2".repeat(32));
        desk.tell(2, ".*0.......");
        return desk;
    }

    private void witnessIs(CountedDesk desk, String word) {
        checks.due("witness(-1)", desk.witness(-1), word.length());
        for (int i = 0; i < word.length(); i++) {
            checks.due("witness(" + i + ")", desk.witness(i), word.charAt(i) - '0');
        }
        checks.due("witness(" + word.length() + ")", desk.witness(word.length()), -1);
    }

    private void noWitness(CountedDesk desk) {
        for (int i = -2; i < 4; i++) {
            checks.due("witness(" + i + ")", desk.witness(i), -1);
        }
    }

    private void newObject() {
        checks.about("a new object: all slots have NONE");
        CountedDesk desk = new CountedDesk();
        for (int slot = 0; slot < 16; slot++) {
            int[] due = {0, 1, 0, 0, 0};
            for (int what = 0; what < 5; what++) {
                checks.due("look(" + slot + ", " + what + ")", desk.look(slot, what), due[what]);
            }
            checks.due("states", desk.states(slot), 1);
            checks.due("languages", desk.languages(slot), 1);
            checks.due("ends", desk.ends(slot), 1);
            checks.due("find", desk.find(slot, 0), -1);
            checks.due("words", desk.words(slot, 0), 0);
            checks.due("has", desk.has(slot, 0, 0), 0);
            checks.due("similar", desk.similar(slot, 15), 1);
            checks.due("equal", desk.equal(0, slot), 1);
        }
    }

    private void objectsAreApart() {
        checks.about("a new object: all slots have NONE, whatever other objects have");
        CountedDesk first = with("01", "2*");
        checks.due("equal", first.equal(0, 1), 0);
        CountedDesk second = new CountedDesk();
        checks.due("slot 0", second.look(0, 0), 0);
        checks.due("slot 1", second.states(1), 1);
        noWitness(second);
        second.letters(0, 3);
        checks.due("slot 0 of the first", first.look(0, 0), 3);
        checks.due("witness of the first", first.witness(-1), 0);
    }

    private void similarOfASlotAndItself() {
        checks.about("similar: whether slots a and b have similar terms");
        CountedDesk desk = with("n", "e", "0", "01", "0*|01", "0*&01", "!0", "0*");
        for (int a = 0; a < 8; a++) {
            for (int b = 0; b < 8; b++) {
                checks.due("similar(" + a + ", " + b + ")", desk.similar(a, b), a == b ? 1 : 0);
            }
        }
        desk.derive(8, 7, 0);
        checks.due("what was derived is similar", desk.similar(8, 7), 1);
    }

    private void hasOfNoLetters() {
        checks.about("has: n = 0: the empty word, whatever w is");
        CountedDesk desk = with("e", "0", "0*", "!(0*)");
        for (int w : new int[] {0, 1, -1, Integer.MIN_VALUE, Integer.MAX_VALUE}) {
            checks.due("EMPTY", desk.has(0, w, 0), 1);
            checks.due("class", desk.has(1, w, 0), 0);
            checks.due("STAR", desk.has(2, w, 0), 1);
            checks.due("NOT", desk.has(3, w, 0), 0);
        }
    }

    private void hasOfSixteenLetters() {
        checks.about("has: n = 16: all bits of w are letters, the highest too");
        CountedDesk desk = with("3.*", ".*3", "0.*", ".".repeat(16), ".".repeat(15), "3*");
        int[] words = {0, -1, Integer.MIN_VALUE, Integer.MAX_VALUE, 0xC0000000, 3};
        int[] beginWith3 = {0, 1, 0, 0, 1, 0};
        int[] endWith3 = {0, 1, 0, 1, 0, 1};
        int[] beginWith0 = {1, 0, 0, 0, 0, 1};
        for (int i = 0; i < words.length; i++) {
            checks.due("3.* has " + words[i], desk.has(0, words[i], 16), beginWith3[i]);
            checks.due(".*3 has " + words[i], desk.has(1, words[i], 16), endWith3[i]);
            checks.due("0.* has " + words[i], desk.has(2, words[i], 16), beginWith0[i]);
            checks.due("16 letters", desk.has(3, words[i], 16), 1);
            checks.due("15 letters", desk.has(4, words[i], 16), 0);
            checks.due("15 letters", desk.has(4, words[i], 15), 1);
            checks.due("3*", desk.has(5, words[i], 16), words[i] == -1 ? 1 : 0);
        }
    }

    private void hasFirstLetterHighest() {
        checks.about("has: two bits each of w, the first one the highest of n");
        CountedDesk desk = with("0123", "3210", "1", "10");
        checks.due("0123", desk.has(0, 0b00_01_10_11, 4), 1);
        checks.due("0123 backwards", desk.has(0, 0b11_10_01_00, 4), 0);
        checks.due("3210", desk.has(1, 0b11_10_01_00, 4), 1);
        checks.due("a 0 less in front", desk.has(0, 0b01_10_11, 3), 0);
        checks.due("1, the lowest letter of w", desk.has(2, 0b11_01, 1), 1);
        checks.due("1, not the next", desk.has(2, 0b01_00, 1), 0);
        checks.due("10", desk.has(3, 0b11_01_00, 2), 1);
    }

    private void hasOfTooLarge() {
        checks.about("has: no word of too large: it answers for these too");
        CountedDesk desk = withTooLarge();
        checks.due("1 letter of 151", desk.has(0, 0, 1), 1);
        checks.due("2 letters", desk.has(0, 0, 2), 0);
        checks.due("16 letters", desk.has(0, 0, 16), 0);
        desk.tell(3, "0*".repeat(32) + "1*");
        checks.due("too large", desk.states(3), -1);
        checks.due("0^16", desk.has(3, 0, 16), 1);
        checks.due("0^15 1", desk.has(3, 1, 16), 1);
        checks.due("0^14 10", desk.has(3, 4, 16), 0);
        desk.turn(3, 2, 0);
        checks.due("NOT, a 0 eight from the end", desk.has(3, 0b11_00_01_01_01_01_01_01_01, 9), 0);
        checks.due("NOT, a 2 there", desk.has(3, 0b00_10_00_00_00_00_00_00_00, 9), 1);
    }

    private void statesOfSmallest() {
        checks.about("states: how many states the term of a slot has");
        String[] texts = {"n", "!n", "e", "!e", "0", ".", "0*", ".*", "01", "0|e"};
        int[] due = {1, 1, 2, 2, 3, 3, 2, 1, 4, 3};
        CountedDesk desk = new CountedDesk();
        for (int i = 0; i < texts.length; i++) {
            desk.tell(0, texts[i]);
            checks.due("states of " + texts[i], desk.states(0), due[i]);
        }
    }

    private void statesOfMost() {
        checks.about("states: NONE when it is too large: more than 150");
        CountedDesk desk = with(MOST_STATES, "." + MOST_STATES);
        checks.due("150", desk.states(0), 150);
        checks.due("151", desk.states(1), -1);
        checks.due("150 again", desk.states(0), 150);
        checks.due("151 again", desk.states(1), -1);
    }

    private void statesOfLargest() {
        checks.about("states: NONE when it is too large: one of a size above 300");
        CountedDesk desk = with("0*0*0*1*0*" + "2".repeat(33), "0*0*0*1*1*0*" + "2".repeat(32));
        checks.due("300", desk.states(0), 38);
        checks.due("301", desk.states(1), -1);
        checks.due("301 again", desk.states(1), -1);
    }

    private void statesFollowTheSlot() {
        checks.about("states: of the term that the slot has now");
        CountedDesk desk = with("." + MOST_STATES);
        checks.due("151", desk.states(0), -1);
        checks.due("derived", desk.derive(0, 0, 0), 61);
        checks.due("150", desk.states(0), 150);
        checks.due("languages", desk.languages(0), 150);
        desk.turn(0, 0, 0);
        checks.due("NOT of it", desk.states(0), 150);
        checks.due("NOT of it has a word of 1 letter", desk.words(0, 1), 4);
        desk.letters(0, 3);
        checks.due("a class", desk.states(0), 3);
        checks.due("a class, words", desk.words(0, 1), 2);
        checks.due("a class, ends", desk.ends(0), 1);
        desk.tell(0, "." + MOST_STATES);
        checks.due("151", desk.states(0), -1);
        checks.due("refused", desk.join(0, 0, 0, CountedDesk.CAT), -1);
        checks.due("151", desk.states(0), -1);
    }

    private void lastOfMostStates() {
        checks.about("states: the last of 150 counts as all others do, here the only one that has the empty word");
        CountedDesk desk = with(".".repeat(10) + "(" + rest(4, 3) + "&" + rest(5, 4) + "&" + rest(7, 6) + ")");
        checks.due("states", desk.states(0), 150);
        checks.due("languages", desk.languages(0), 150);
        checks.due("ends", desk.ends(0), 0);
        checks.due("equal to NONE", desk.equal(0, 1), 0);
        witnessIs(desk, "0".repeat(149));
        desk.turn(0, 0, CountedDesk.NOT);
        desk.turn(1, 1, CountedDesk.NOT);
        checks.due("NOT of it, states", desk.states(0), 150);
        checks.due("NOT of it, equal to all", desk.equal(1, 0), 0);
        witnessIs(desk, "0".repeat(149));
    }

    private void languagesOfFewest() {
        checks.about("languages: how many of its states tell different words");
        String[] texts = {"n", "!n", ".*.*", "e", "0&e", "01&!(01)", "0|e", "(0|e)*", "[01]*|[23]*|!n"};
        int[] states = {1, 1, 2, 2, 2, 4, 3, 2, 1};
        int[] due = {1, 1, 1, 2, 1, 1, 3, 2, 1};
        CountedDesk desk = new CountedDesk();
        for (int i = 0; i < texts.length; i++) {
            desk.tell(0, texts[i]);
            checks.due("states of " + texts[i], desk.states(0), states[i]);
            checks.due("languages of " + texts[i], desk.languages(0), due[i]);
        }
    }

    private void languagesOfMost() {
        checks.about("languages: all of 150 states, or one of as many");
        CountedDesk desk = with(MOST_STATES);
        checks.due("150", desk.languages(0), 150);
        desk.tell(1, cycle(5) + "&!(" + cycle(5) + ")&" + cycle(4) + "&" + cycle(7));
        checks.due("140 states", desk.states(1), 140);
        checks.due("that tell no word", desk.languages(1), 1);
    }

    private void languagesOfTooLarge() {
        checks.about("languages: NONE when it is too large");
        CountedDesk desk = withTooLarge();
        for (int slot = 0; slot < 3; slot++) {
            checks.due("languages(" + slot + ")", desk.languages(slot), -1);
        }
        desk.tell(0, ".(" + cycle(5) + "&!(" + cycle(5) + ")&" + cycle(6) + "&" + cycle(7) + ")");
        checks.due("many states of one language", desk.languages(0), -1);
    }

    private void equalOfTheSame() {
        checks.about("equal: whether slots a and b tell the same words: 1");
        String[][] same = {{"n", "0&e"}, {"e", "0*&e"}, {"!n", ".*"}, {"(0|1)*", "(0*1*)*"}, {"!(.*0.*)", "[123]*"},
            {"0*0*", "0*"}, {"e|00*", "0*"}, {"!(!(01)&!(23))", "01|23"}, {"n", "!(.*)"}};
        for (String[] pair : same) {
            CountedDesk desk = with(pair);
            checks.due("equal " + pair[0] + " and " + pair[1], desk.equal(0, 1), 1);
            checks.due("equal " + pair[1] + " and " + pair[0], desk.equal(1, 0), 1);
            checks.due("a slot and itself", desk.equal(1, 1), 1);
        }
        CountedDesk desk = with(MOST_STATES, cycle(25) + "&" + cycle(6));
        checks.due("150 states and 150", desk.equal(0, 1), 1);
    }

    private void equalOfOthers() {
        checks.about("equal: whether slots a and b tell the same words: 0");
        String[][] others = {{"n", "e"}, {"n", "0"}, {"e", "0"}, {"0", "1"}, {"!n", "!e"}, {"0*", "00*"}, {"01", "10"},
            {".*", "!" + "(" + "3".repeat(17) + ")"}};
        for (String[] pair : others) {
            CountedDesk desk = with(pair);
            checks.due("equal " + pair[0] + " and " + pair[1], desk.equal(0, 1), 0);
            checks.due("equal " + pair[1] + " and " + pair[0], desk.equal(1, 0), 0);
        }
    }

    private void equalOfTooLarge() {
        checks.about("equal: NONE when one of both is too large");
        CountedDesk desk = withTooLarge();
        desk.tell(4, "!n");
        for (int slot = 0; slot < 3; slot++) {
            checks.due("with NONE", desk.equal(slot, 3), -1);
            checks.due("NONE with it", desk.equal(3, slot), -1);
            checks.due("with all", desk.equal(slot, 4), -1);
            checks.due("with another", desk.equal(slot, (slot + 1) % 3), -1);
            checks.due("with itself", desk.equal(slot, slot), -1);
        }
    }

    private void witnessNotAsked() {
        checks.about("witness: NONE when equal() was not asked");
        CountedDesk desk = new CountedDesk();
        noWitness(desk);
        desk.tell(0, "01");
        desk.similar(0, 1);
        desk.languages(0);
        noWitness(desk);
    }

    private void witnessOfTheEmptyWord() {
        checks.about("witness: i = -1: how long it is, 0 for the empty word");
        CountedDesk desk = with("0*", "00*");
        checks.due("equal", desk.equal(0, 1), 0);
        checks.due("witness(-1)", desk.witness(-1), 0);
        checks.due("witness(0)", desk.witness(0), -1);
    }

    private void witnessPlaces() {
        checks.about("witness: NONE when there is no letter i");
        CountedDesk desk = with("3120");
        checks.due("equal", desk.equal(0, 1), 0);
        witnessIs(desk, "3120");
        for (int i : new int[] {-2, -3, 4, 5, 16, 300, 301, 1000, Integer.MIN_VALUE, Integer.MAX_VALUE}) {
            checks.due("witness(" + i + ")", desk.witness(i), -1);
        }
        checks.due("a shorter word", desk.equal(2, 0), 0);
        desk.tell(1, "2");
        checks.due("after a longer one", desk.equal(1, 2), 0);
        witnessIs(desk, "2");
        checks.due("witness(2)", desk.witness(2), -1);
    }

    private void witnessAfterEqual() {
        checks.about("witness: NONE when equal() answered 1 latest");
        CountedDesk desk = with("01", "02", "01");
        checks.due("equal", desk.equal(0, 1), 0);
        witnessIs(desk, "01");
        checks.due("equal", desk.equal(0, 2), 1);
        noWitness(desk);
    }

    private void witnessAfterTooLarge() {
        checks.about("witness: NONE when equal() answered NONE latest");
        CountedDesk desk = withTooLarge();
        desk.tell(4, "01");
        checks.due("equal", desk.equal(3, 4), 0);
        witnessIs(desk, "01");
        checks.due("equal", desk.equal(4, 1), -1);
        noWitness(desk);
        checks.due("equal", desk.equal(4, 3), 0);
        checks.due("equal", desk.equal(2, 4), -1);
        noWitness(desk);
    }

    private void witnessOfTheLatest() {
        checks.about("witness: as equal() answered 0 latest");
        CountedDesk desk = with("012", "3", "3");
        checks.due("equal", desk.equal(0, 4), 0);
        witnessIs(desk, "012");
        checks.due("equal", desk.equal(1, 4), 0);
        witnessIs(desk, "3");
        checks.due("equal", desk.equal(1, 2), 1);
        checks.due("equal", desk.equal(0, 4), 0);
        witnessIs(desk, "012");
    }

    private void witnessStays() {
        checks.about("witness: as equal() answered 0 latest, also when the slots are changed later");
        CountedDesk desk = with("012", "01");
        checks.due("equal", desk.equal(0, 1), 0);
        desk.letters(0, 0);
        desk.join(1, 0, 0, 1);
        desk.turn(0, 0, 0);
        desk.derive(0, 0, 1);
        checks.due("similar", desk.similar(0, 1), 0);
        checks.due("states", desk.states(0), 1);
        checks.due("find", desk.find(0, 0), 0);
        witnessIs(desk, "01");
    }

    private void witnessAfterThrown() {
        checks.about("witness: a call of equal() that throws answers nothing");
        CountedDesk desk = with("012", "01");
        checks.due("equal", desk.equal(0, 1), 0);
        checks.isThrown("equal(0, 16)", IndexOutOfBoundsException.class, () -> desk.equal(0, 16));
        checks.isThrown("equal(-1, 0)", IndexOutOfBoundsException.class, () -> desk.equal(-1, 0));
        witnessIs(desk, "01");
        CountedDesk other = new CountedDesk();
        checks.isThrown("equal(0, 16)", IndexOutOfBoundsException.class, () -> other.equal(0, 16));
        noWitness(other);
    }

    private void witnessIsLeast() {
        checks.about("witness: the least word that only one of them has");
        String[][] cases = {
            {"3|00", "n", "3"}, {"10|03", "n", "03"}, {"n", "31|13|22", "13"}, {"0*1", "0*1|0002", "0002"},
            {".*", "!(0123)", "0123"}, {"(01)*", "(01)*0", ""}, {"0(01)*", "0(01)*|0100", "0100"},
            {".*0.*", "!(1*)", "2"}, {".*1", ".*01|1", "11"}, {"!(.*33.*)", "!(.*3.*3.*)", "303"}};
        for (String[] each : cases) {
            CountedDesk desk = with(each[0], each[1]);
            checks.due("equal " + each[0] + " and " + each[1], desk.equal(0, 1), 0);
            witnessIs(desk, each[2]);
            checks.due("the other way", desk.equal(1, 0), 0);
            witnessIs(desk, each[2]);
        }
    }

    /** Words of so many letters that the rest by length is rest. */
    private static String rest(int length, int rest) {
        return ".".repeat(rest) + cycle(length);
    }

    private void witnessOfManyLetters() {
        checks.about("witness: the least word, also when it is longer than 150 letters");
        CountedDesk desk = with(rest(8, 7) + "&" + rest(13, 12));
        desk.tell(1, rest(3, 1) + "&" + rest(5, 3) + "&" + rest(7, 5));
        checks.due("states", desk.states(0), 104);
        checks.due("states", desk.states(1), 105);
        checks.due("equal", desk.equal(0, 1), 0);
        checks.due("103 letters and 208 more only once", desk.witness(-1), 207);
        checks.due("the last letter", desk.witness(206), 0);
        checks.due("past it", desk.witness(207), -1);
        CountedDesk most = with(MOST_STATES, "e");
        checks.due("equal", most.equal(0, 1), 0);
        witnessIs(most, "0".repeat(150));
    }

    private void wordsOfNoLetters() {
        checks.about("words: n = 0: the empty word or none");
        CountedDesk desk = with("n", "e", "0", "0*", "!n", "!e");
        int[] due = {0, 1, 0, 1, 1, 0};
        for (int slot = 0; slot < due.length; slot++) {
            checks.due("words(" + slot + ", 0)", desk.words(slot, 0), due[slot]);
        }
    }

    private void wordsOfSixteenLetters() {
        checks.about("words: n = 16: up to 2^32");
        CountedDesk desk = with("n", "!n", ".*", "[01]*", ".*3", ".".repeat(16), ".".repeat(15), "!(" + "2".repeat(16) + ")");
        long[] due = {0, 1L << 32, 1L << 32, 1L << 16, 1L << 30, 1L << 32, 0, (1L << 32) - 1};
        for (int slot = 0; slot < due.length; slot++) {
            checks.due("words(" + slot + ", 16)", desk.words(slot, 16), due[slot]);
        }
        for (int n = 0; n <= 16; n++) {
            checks.due("all of " + n, desk.words(1, n), 1L << 2 * n);
        }
        desk.tell(0, MOST_STATES);
        checks.due("words of 150 states", desk.words(0, 0), 1);
        checks.due("words of 150 states", desk.words(0, 16), 0);
    }

    private void wordsOfTooLarge() {
        checks.about("words: NONE when it is too large");
        CountedDesk desk = withTooLarge();
        for (int slot = 0; slot < 3; slot++) {
            checks.due("words(" + slot + ", 0)", desk.words(slot, 0), -1);
            checks.due("words(" + slot + ", 16)", desk.words(slot, 16), -1);
        }
    }

    private void endsIs(String text, int due) {
        checks.due("ends " + text, with(text).ends(0), due);
    }

    private void endsWithFew() {
        checks.about("ends: whether it has finitely many words: 1, also for none");
        endsIs("n", 1);
        endsIs("e", 1);
        endsIs(".", 1);
        endsIs("0&e", 1);
        endsIs("!(.*)", 1);
        endsIs("0*&1*", 1);
        endsIs("0*1&0*2", 1);
        endsIs("0*&(0|00|e)", 1);
        endsIs(cycle(5) + "&" + rest(5, 1), 1);
    }

    private void endsWithLong() {
        checks.about("ends: 1, also when its words are longer than 16 letters");
        endsIs(".".repeat(17), 1);
        endsIs(".".repeat(50), 1);
        endsIs("(0|e)(1|e)" + "2".repeat(30), 1);
    }

    private void endsNot() {
        checks.about("ends: whether it has finitely many words: 0");
        endsIs("!n", 0);
        endsIs("!e", 0);
        endsIs("!.", 0);
        endsIs("0*", 0);
        endsIs("2".repeat(30) + "0*", 0);
        endsIs("0*" + "2".repeat(30), 0);
        endsIs(MOST_STATES, 0);
        endsIs(cycle(5) + "&" + cycle(7) + "&!e", 0);
        endsIs("01|3*", 0);
    }

    private void endsOfTooLarge() {
        checks.about("ends: NONE when it is too large");
        CountedDesk desk = withTooLarge();
        for (int slot = 0; slot < 3; slot++) {
            checks.due("ends(" + slot + ")", desk.ends(slot), -1);
        }
    }

    private void findFirstAndLast() {
        checks.about("find: the k-th (from 0) of its words, the least first; NONE when there is none such");
        CountedDesk desk = with("n", "e", "[03]", "3|00|123");
        checks.due("NONE, 0", desk.find(0, 0), -1);
        checks.due("EMPTY, 0", desk.find(1, 0), 0);
        checks.due("EMPTY, 1", desk.find(1, 1), -1);
        checks.due("class, 0", desk.find(2, 0), UNIT);
        checks.due("class, 1", desk.find(2, 1), UNIT + 3);
        checks.due("class, 2", desk.find(2, 2), -1);
        checks.due("words, 0", desk.find(3, 0), UNIT + 3);
        checks.due("words, 1", desk.find(3, 1), 2 * UNIT);
        checks.due("words, 2", desk.find(3, 2), 3 * UNIT + 0b01_10_11);
        checks.due("words, 3", desk.find(3, 3), -1);
        checks.due("words, 2^32", desk.find(3, 1L << 32), -1);
    }

    private void findBeforeTheFirst() {
        checks.about("find: from 0: NONE before");
        CountedDesk desk = with("e", "!n");
        for (long k : new long[] {-1, -2, Integer.MIN_VALUE, Long.MIN_VALUE, -1L << 32}) {
            checks.due("EMPTY, " + k, desk.find(0, k), -1);
            checks.due("all, " + k, desk.find(1, k), -1);
        }
    }

    private void findOfSixteenLetters() {
        checks.about("find: the letters as has() takes them, and 2^36 times how many: at most 16");
        CountedDesk desk = with("!n", "3".repeat(16), "0".repeat(16));
        long shorter = ((1L << 32) - 1) / 3;
        checks.due("the last of 15 letters", desk.find(0, shorter - 1), 15 * UNIT + (1L << 30) - 1);
        checks.due("the first of 16 letters", desk.find(0, shorter), 16 * UNIT);
        checks.due("the last of 16 letters", desk.find(0, shorter + (1L << 32) - 1), 16 * UNIT + (1L << 32) - 1);
        checks.due("none past it", desk.find(0, shorter + (1L << 32)), -1);
        checks.due("none far past it", desk.find(0, Long.MAX_VALUE), -1);
        checks.due("3^16", desk.find(1, 0), 16 * UNIT + (1L << 32) - 1);
        checks.due("0^16", desk.find(2, 0), 16 * UNIT);
        checks.due("0^16, 1", desk.find(2, 1), -1);
    }

    private void findOfMoreLetters() {
        checks.about("find: NONE when there is none such of at most 16 letters");
        CountedDesk desk = with("0".repeat(17), "0".repeat(17) + "|1", MOST_STATES, "0*");
        checks.due("0^17", desk.find(0, 0), -1);
        checks.due("1", desk.find(1, 0), UNIT + 1);
        checks.due("then 0^17", desk.find(1, 1), -1);
        checks.due("the empty word", desk.find(2, 0), 0);
        checks.due("then of 150 letters", desk.find(2, 1), -1);
        checks.due("0^16", desk.find(3, 16), 16 * UNIT);
        checks.due("0^17", desk.find(3, 17), -1);
    }

    private void findOfTooLarge() {
        checks.about("find: NONE when it is too large");
        CountedDesk desk = withTooLarge();
        for (int slot = 0; slot < 3; slot++) {
            checks.due("find(" + slot + ", 0)", desk.find(slot, 0), -1);
            checks.due("find(" + slot + ", 5)", desk.find(slot, 5), -1);
        }
    }

    private void lookAtEachSort() {
        checks.about("look: sort, size, whether nullable, how many it has (0 of sorts 0 .. 2), the letters of a class");
        String[] texts = {"n", "e", "[13]", "01", "01|23|e", "0*&1*&2*&3*", "!(01)", "(01)*"};
        int[] size = {1, 1, 1, 3, 8, 9, 4, 4};
        int[] nullable = {0, 1, 0, 0, 1, 1, 1, 1};
        int[] count = {0, 0, 0, 2, 3, 4, 1, 1};
        CountedDesk desk = with(texts);
        for (int slot = 0; slot < texts.length; slot++) {
            checks.due("sort of " + texts[slot], desk.look(slot, 0), slot);
            checks.due("size of " + texts[slot], desk.look(slot, 1), size[slot]);
            checks.due("nullable " + texts[slot], desk.look(slot, 2), nullable[slot]);
            checks.due("how many of " + texts[slot], desk.look(slot, 3), count[slot]);
            checks.due("letters of " + texts[slot], desk.look(slot, 4), slot == 2 ? 10 : 0);
        }
    }

    private void lookAtOthers() {
        checks.about("look: NONE for others");
        CountedDesk desk = with("n", "e", "[13]", "01", "01|23|e", "0*&1*&2*&3*", "!(01)", "(01)*");
        for (int slot = 0; slot < 8; slot++) {
            for (int what : new int[] {-1, 5, 6, 7, -2, Integer.MIN_VALUE, Integer.MAX_VALUE}) {
                checks.due("look(" + slot + ", " + what + ")", desk.look(slot, what), -1);
            }
        }
    }

    private void lookAtTooLarge() {
        checks.about("look: no word of too large: it answers for these too");
        CountedDesk desk = withTooLarge();
        int[] size = {63, 81, 18};
        for (int slot = 0; slot < 3; slot++) {
            checks.due("states", desk.states(slot), -1);
            checks.due("sort", desk.look(slot, 0), 3);
            checks.due("size", desk.look(slot, 1), size[slot]);
            checks.due("nullable", desk.look(slot, 2), 0);
            checks.due("how many", desk.look(slot, 3), 2);
            checks.due("letters", desk.look(slot, 4), 0);
        }
    }
}
