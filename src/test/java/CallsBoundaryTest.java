import java.util.function.LongSupplier;

/**
 * From where to where arguments go, what is thrown and in which order, and when nothing is changed:
 * a test of its own for each promise that says so, and the 512 calls that an object is promised for.
 */
public final class CallsBoundaryTest {
    private static final int[] NO_SLOTS = {-1, 16, 17, 32, -16, 256, Integer.MIN_VALUE, Integer.MAX_VALUE};
    private static final int[] SLOTS = {0, 1, 14, 15};

    private static final int CAT = CountedDesk.CAT;
    private static final int OR = CountedDesk.OR;
    private static final int AND = CountedDesk.AND;
    private static final int NOT = CountedDesk.NOT;
    private static final int STAR = CountedDesk.STAR;

    private final Checks checks = new Checks();

    /** A call with one argument left open. */
    private interface Call {
        long with(CountedDesk desk, int value);
    }

    public static void main(String[] args) {
        CallsBoundaryTest test = new CallsBoundaryTest();
        test.lettersSlots();
        test.lettersRange();
        test.lettersOrder();
        test.joinSlots();
        test.joinRange();
        test.joinOrder();
        test.joinCatSize();
        test.joinOrSize();
        test.joinAndSize();
        test.joinSizeIsOfWhatIsKept();
        test.joinIntoItsOwn();
        test.turnSlots();
        test.turnRange();
        test.turnOrder();
        test.turnNotSize();
        test.turnStarSize();
        test.turnSizeIsOfWhatIsKept();
        test.deriveSlots();
        test.deriveRange();
        test.deriveOrder();
        test.deriveSize();
        test.deriveSizeIsOfWhatIsKept();
        test.similarSlots();
        test.hasSlots();
        test.hasRange();
        test.hasOrder();
        test.statesSlots();
        test.languagesSlots();
        test.equalSlots();
        test.witnessThrowsNothing();
        test.wordsSlots();
        test.wordsRange();
        test.wordsOrder();
        test.endsSlots();
        test.findSlots();
        test.lookSlots();
        test.refusedCallsChangeNothing();
        test.askingChangesNothing();
        test.manyCalls();
        test.checks.end();
    }

    private void noSlot(String call, Call open) {
        CountedDesk desk = new CountedDesk();
        for (int slot : NO_SLOTS) {
            checks.isThrown(call + ", slot " + slot, IndexOutOfBoundsException.class, () -> open.with(desk, slot));
        }
        for (int slot : SLOTS) {
            answers(call + ", slot " + slot, () -> open.with(desk, slot));
        }
    }

    private void answers(String call, LongSupplier made) {
        try {
            made.getAsLong();
        } catch (RuntimeException e) {
            checks.isTrue(call + " answers, but threw " + e.getClass().getName(), false);
        }
    }

    /** All values from 0 to the highest are taken, none below or above. */
    private void range(String call, int highest, Call open) {
        CountedDesk desk = new CountedDesk();
        int[] wrong = {-1, highest + 1, highest + 2, 64, 256, -highest, Integer.MIN_VALUE, Integer.MAX_VALUE};
        for (int value : wrong) {
            checks.isThrown(call + " with " + value, IllegalArgumentException.class, () -> open.with(desk, value));
        }
        for (int value = 0; value <= highest; value++) {
            int right = value;
            answers(call + " with " + value, () -> open.with(desk, right));
        }
    }

    /** With a wrong slot and another wrong argument the slot is told. */
    private void slotFirst(String call, int highest, Call open) {
        CountedDesk desk = new CountedDesk();
        for (int value : new int[] {-1, highest + 1, Integer.MIN_VALUE, Integer.MAX_VALUE}) {
            checks.isThrown(call + " with " + value, IndexOutOfBoundsException.class, () -> open.with(desk, value));
        }
    }

    private void lettersSlots() {
        checks.about("letters: IndexOutOfBoundsException when there is no such slot");
        noSlot("letters", (desk, s) -> desk.letters(s, 1));
    }

    private void lettersRange() {
        checks.about("letters: IllegalArgumentException when letters is not 0 .. 16");
        range("letters", 16, (desk, x) -> desk.letters(0, x));
        checks.about("letters: bit k: letter k; 0 .. 15, 0 for NONE, or, for 16, EMPTY: its size");
        CountedDesk desk = new CountedDesk();
        for (int letters = 0; letters <= 16; letters++) {
            checks.due("letters(15, " + letters + ")", desk.letters(15, letters), 1);
            checks.due("sort", desk.look(15, 0), letters == 0 ? 0 : letters == 16 ? 1 : 2);
            checks.due("letters", desk.look(15, 4), letters == 16 ? 0 : letters);
            for (int k = 0; k < 4; k++) {
                checks.due("has letter " + k, desk.has(15, k, 1), letters == 16 ? 0 : letters >> k & 1);
            }
        }
    }

    private void lettersOrder() {
        checks.about("letters: IndexOutOfBoundsException, else IllegalArgumentException");
        slotFirst("letters, slot -1", 16, (desk, x) -> desk.letters(-1, x));
        slotFirst("letters, slot 16", 16, (desk, x) -> desk.letters(16, x));
    }

    private void joinSlots() {
        checks.about("join: throws as letters when there is no slot s, a or b");
        for (int how = 0; how <= 2; how++) {
            int each = how;
            noSlot("join, s", (desk, s) -> desk.join(s, 0, 15, each));
            noSlot("join, a", (desk, a) -> desk.join(0, a, 15, each));
            noSlot("join, b", (desk, b) -> desk.join(0, 15, b, each));
        }
    }

    private void joinRange() {
        checks.about("join: throws as letters when how is not 0 .. 2");
        range("join", 2, (desk, how) -> desk.join(0, 1, 2, how));
        checks.about("join: CAT (how = 0), OR (1), AND (2): its size");
        CountedDesk desk = new CountedDesk();
        desk.tell(0, "0*");
        desk.tell(1, "10");
        for (int how = 0; how <= 2; how++) {
            checks.due("join with " + how, desk.join(2, 0, 1, how), 6);
            checks.due("sort", desk.look(2, 0), 3 + how);
        }
    }

    private void joinOrder() {
        checks.about("join: IndexOutOfBoundsException, else IllegalArgumentException");
        slotFirst("join, slot s", 2, (desk, how) -> desk.join(16, 0, 0, how));
        slotFirst("join, slot a", 2, (desk, how) -> desk.join(0, -1, 0, how));
        slotFirst("join, slot b", 2, (desk, how) -> desk.join(0, 0, 16, how));
    }

    /** Slot 1 becomes a CAT of this many letters. */
    private static void tellChain(CountedDesk desk, int letters) {
        desk.tell(1, "01".repeat(letters / 2) + (letters % 2 == 0 ? "" : "0"));
    }

    private void keeps(CountedDesk desk, String call, int answer, int sort, int size) {
        checks.due(call, answer, -1);
        checks.due("the sort stays", desk.look(0, 0), sort);
        checks.due("the size stays", desk.look(0, 1), size);
    }

    private void joinSize(int how) {
        CountedDesk desk = new CountedDesk();
        tellChain(desk, 49);
        desk.tell(2, "3*");
        checks.due("to size 100", desk.join(0, 1, 2, how), 100);
        checks.due("the size", desk.look(0, 1), 100);
        checks.due("the sort", desk.look(0, 0), 3 + how);
        tellChain(desk, 50);
        desk.tell(2, "3");
        keeps(desk, "to size 101", desk.join(0, 1, 2, how), 3 + how, 100);
        keeps(desk, "to size 101, the other way", desk.join(0, 2, 1, how), 3 + how, 100);
        desk.tell(2, "3*");
        keeps(desk, "to size 102", desk.join(0, 1, 2, how), 3 + how, 100);
        checks.due("slot a stays", desk.look(1, 1), 99);
        checks.due("slot b stays", desk.look(2, 1), 2);
        checks.due("into slot a", desk.join(1, 1, 2, how), -1);
        checks.due("slot a stays", desk.look(1, 1), 99);
        checks.due("into slot b", desk.join(2, 1, 2, how), -1);
        checks.due("slot b stays", desk.look(2, 1), 2);
    }

    private void joinCatSize() {
        checks.about("join, CAT: NONE, changing nothing, when its size would be above 100");
        joinSize(CAT);
        CountedDesk desk = new CountedDesk();
        tellChain(desk, 50);
        checks.due("twice a size of 99", desk.join(0, 1, 1, CAT), -1);
        checks.due("the slot stays NONE", desk.look(0, 0), 0);
    }

    private void joinOrSize() {
        checks.about("join, OR: NONE, changing nothing, when its size would be above 100");
        joinSize(OR);
    }

    private void joinAndSize() {
        checks.about("join, AND: NONE, changing nothing, when its size would be above 100");
        joinSize(AND);
    }

    private void joinSizeIsOfWhatIsKept() {
        checks.about("join: when the size of what is kept would be above 100, not of what it is made of");
        CountedDesk desk = new CountedDesk();
        tellChain(desk, 49);
        desk.tell(2, "3*");
        desk.join(3, 1, 2, OR);
        desk.join(4, 1, 2, AND);
        checks.due("OR with itself", desk.join(0, 3, 3, OR), 100);
        checks.due("OR with one of its own", desk.join(0, 1, 3, OR), 100);
        checks.due("AND with itself", desk.join(0, 4, 4, AND), 100);
        checks.due("AND with one of its own", desk.join(0, 4, 2, AND), 100);
        checks.due("AND with another one", desk.join(0, 3, 4, AND), -1);
        desk.tell(5, "n");
        desk.tell(6, "!n");
        desk.tell(7, "e");
        checks.due("OR with NONE", desk.join(0, 3, 5, OR), 100);
        checks.due("OR with NOT of NONE", desk.join(0, 3, 6, OR), 2);
        checks.due("AND with NOT of NONE", desk.join(0, 6, 3, AND), 100);
        checks.due("AND with NONE", desk.join(0, 3, 5, AND), 1);
        checks.due("CAT with EMPTY", desk.join(0, 3, 7, CAT), 100);
        checks.due("CAT of EMPTY", desk.join(0, 7, 3, CAT), 100);
        checks.due("CAT with NONE", desk.join(0, 3, 5, CAT), 1);
        checks.due("OR with EMPTY", desk.join(0, 3, 7, OR), -1);
    }

    private void joinIntoItsOwn() {
        checks.about("join: slot s becomes that of slots a and b, also when it is one of them");
        for (int how = 0; how <= 2; how++) {
            CountedDesk desk = new CountedDesk();
            desk.tell(0, "0*");
            desk.tell(1, "12");
            desk.join(2, 0, 1, how);
            desk.join(3, 0, 1, how);
            desk.join(0, 0, 1, how);
            checks.due("into a", desk.similar(0, 2), 1);
            desk.tell(0, "0*");
            desk.join(1, 0, 1, how);
            checks.due("into b", desk.similar(1, 3), 1);
            checks.due("a stays", desk.look(0, 1), 2);
        }
        CountedDesk desk = new CountedDesk();
        desk.tell(0, "01");
        checks.due("into both", desk.join(0, 0, 0, CAT), 7);
        checks.due("has it twice", desk.has(0, "0101"), 1);
    }

    private void turnSlots() {
        checks.about("turn: throws as letters when there is no slot s or a");
        for (int how = 0; how <= 1; how++) {
            int each = how;
            noSlot("turn, s", (desk, s) -> desk.turn(s, 0, each));
            noSlot("turn, a", (desk, a) -> desk.turn(15, a, each));
        }
    }

    private void turnRange() {
        checks.about("turn: throws as letters when how is not 0, 1");
        range("turn", 1, (desk, how) -> desk.turn(0, 1, how));
        checks.about("turn: NOT (how = 0), STAR (1): its size");
        CountedDesk desk = new CountedDesk();
        desk.tell(0, "01");
        checks.due("turn with 0", desk.turn(1, 0, NOT), 4);
        checks.due("NOT", desk.look(1, 0), 6);
        checks.due("turn with 1", desk.turn(1, 0, STAR), 4);
        checks.due("STAR", desk.look(1, 0), 7);
        checks.due("slot a stays", desk.look(0, 0), 3);
    }

    private void turnOrder() {
        checks.about("turn: IndexOutOfBoundsException, else IllegalArgumentException");
        slotFirst("turn, slot s", 1, (desk, how) -> desk.turn(-1, 0, how));
        slotFirst("turn, slot a", 1, (desk, how) -> desk.turn(0, 16, how));
    }

    private void turnSize(int how) {
        CountedDesk desk = new CountedDesk();
        tellChain(desk, 50);
        checks.due("to size 100", desk.turn(0, 1, how), 100);
        checks.due("the sort", desk.look(0, 0), 6 + how);
        keeps(desk, "to size 101", desk.turn(0, 0, 1 - how), 6 + how, 100);
        checks.due("to size 101 in another slot", desk.turn(2, 0, 1 - how), -1);
        checks.due("which stays NONE", desk.look(2, 0), 0);
        tellChain(desk, 49);
        desk.tell(2, "3*");
        desk.join(3, 1, 2, CAT);
        keeps(desk, "CAT to size 101", desk.turn(0, 3, how), 6 + how, 100);
        checks.due("slot a stays", desk.look(3, 1), 100);
    }

    private void turnNotSize() {
        checks.about("turn, NOT: NONE, changing nothing, when its size would be above 100");
        turnSize(NOT);
    }

    private void turnStarSize() {
        checks.about("turn, STAR: NONE, changing nothing, when its size would be above 100");
        turnSize(STAR);
    }

    private void turnSizeIsOfWhatIsKept() {
        checks.about("turn: when the size of what is kept would be above 100");
        CountedDesk desk = new CountedDesk();
        tellChain(desk, 50);
        desk.turn(2, 1, NOT);
        desk.turn(3, 1, STAR);
        checks.due("NOT of NOT of size 100", desk.turn(0, 2, NOT), 99);
        checks.due("which is the chain", desk.similar(0, 1), 1);
        checks.due("STAR of STAR of size 100", desk.turn(0, 3, STAR), 100);
        checks.due("which is that", desk.similar(0, 3), 1);
        checks.due("into its own slot", desk.turn(3, 3, STAR), 100);
        checks.due("and that", desk.turn(2, 2, NOT), 99);
    }

    private void deriveSlots() {
        checks.about("derive: throws as letters when there is no slot s or a");
        noSlot("derive, s", (desk, s) -> desk.derive(s, 0, 0));
        noSlot("derive, a", (desk, a) -> desk.derive(15, a, 3));
    }

    private void deriveRange() {
        checks.about("derive: throws as letters when letter is not 0 .. 3");
        range("derive", 3, (desk, letter) -> desk.derive(0, 1, letter));
        checks.about("derive: slot s becomes the derivative of slot a by a letter: its size");
        CountedDesk desk = new CountedDesk();
        desk.tell(0, "03|1(23)|200|3*");
        int[] size = {1, 3, 3, 2};
        int[] sort = {2, 3, 3, 7};
        for (int letter = 0; letter < 4; letter++) {
            checks.due("by " + letter, desk.derive(1, 0, letter), size[letter]);
            checks.due("its sort", desk.look(1, 0), sort[letter]);
        }
        checks.due("slot a stays", desk.look(0, 3), 4);
        checks.due("into its own", desk.derive(0, 0, 1), 3);
        checks.due("its sort", desk.look(0, 0), 3);
    }

    private void deriveOrder() {
        checks.about("derive: IndexOutOfBoundsException, else IllegalArgumentException");
        slotFirst("derive, slot s", 3, (desk, letter) -> desk.derive(16, 0, letter));
        slotFirst("derive, slot a", 3, (desk, letter) -> desk.derive(0, -1, letter));
    }

    private void deriveSize() {
        checks.about("derive: NONE, changing nothing, when its size would be above 100");
        CountedDesk desk = new CountedDesk();
        desk.tell(0, "0*0*" + "2".repeat(23));
        checks.due("to size 100", desk.derive(0, 0, 0), 100);
        checks.due("its sort", desk.look(0, 0), 4);
        desk.tell(1, "0*(1|e)0*0*" + "2".repeat(12) + "3*");
        keeps(desk, "to size 101", desk.derive(0, 1, 0), 4, 100);
        checks.due("slot a stays", desk.look(1, 1), 39);
        checks.due("into its own", desk.derive(1, 1, 0), -1);
        checks.due("it stays", desk.look(1, 1), 39);
        checks.due("by another letter it goes", desk.derive(0, 1, 3), 1);
    }

    private void deriveSizeIsOfWhatIsKept() {
        checks.about("derive: when the size of what is kept would be above 100, not of what it is made of");
        CountedDesk desk = new CountedDesk();
        desk.tell(0, "0*".repeat(32) + "1*");
        checks.due("far above 100", desk.derive(1, 0, 0), -1);
        checks.due("nothing is changed", desk.look(1, 0), 0);
        desk.letters(2, CountedDesk.EMPTY);
        checks.due("AND with EMPTY", desk.join(0, 0, 2, AND), 100);
        checks.due("AND with NONE", desk.derive(0, 0, 0), 1);
        checks.due("NONE", desk.look(0, 0), 0);
    }

    private void similarSlots() {
        checks.about("similar: IndexOutOfBoundsException when one is not there");
        noSlot("similar, a", (desk, a) -> desk.similar(a, 0));
        noSlot("similar, b", (desk, b) -> desk.similar(0, b));
        noSlot("similar, both", (desk, a) -> desk.similar(a, a));
    }

    private void hasSlots() {
        checks.about("has: throws as letters when there is no such slot");
        noSlot("has", (desk, a) -> desk.has(a, 0, 0));
        noSlot("has, 16 letters", (desk, a) -> desk.has(a, -1, 16));
    }

    private void hasRange() {
        checks.about("has: throws as letters when n is not 0 .. 16");
        range("has", 16, (desk, n) -> desk.has(0, 0, n));
        range("has", 16, (desk, n) -> desk.has(0, -1, n));
    }

    private void hasOrder() {
        checks.about("has: IndexOutOfBoundsException, else IllegalArgumentException");
        slotFirst("has, slot -1", 16, (desk, n) -> desk.has(-1, 0, n));
        slotFirst("has, slot 16", 16, (desk, n) -> desk.has(16, 0, n));
    }

    private void statesSlots() {
        checks.about("states: IndexOutOfBoundsException when it is not there");
        noSlot("states", (desk, a) -> desk.states(a));
    }

    private void languagesSlots() {
        checks.about("languages: throws as states");
        noSlot("languages", (desk, a) -> desk.languages(a));
    }

    private void equalSlots() {
        checks.about("equal: throws as states");
        noSlot("equal, a", (desk, a) -> desk.equal(a, 15));
        noSlot("equal, b", (desk, b) -> desk.equal(15, b));
        noSlot("equal, both", (desk, a) -> desk.equal(a, a));
        checks.about("equal: throws as states, also when the other one is too large");
        CountedDesk desk = new CountedDesk();
        tellTooLarge(desk, 0);
        checks.isThrown("equal(0, 16)", IndexOutOfBoundsException.class, () -> desk.equal(0, 16));
        checks.isThrown("equal(-1, 0)", IndexOutOfBoundsException.class, () -> desk.equal(-1, 0));
    }

    private static void tellTooLarge(CountedDesk desk, int slot) {
        desk.tell(slot, ".*0.......");
    }

    private void witnessThrowsNothing() {
        checks.about("witness: throws nothing");
        CountedDesk desk = new CountedDesk();
        for (int slot : NO_SLOTS) {
            answers("witness", () -> desk.witness(slot));
        }
        desk.tell(0, "012");
        desk.equal(0, 1);
        for (int slot : NO_SLOTS) {
            answers("witness", () -> desk.witness(slot));
        }
    }

    private void wordsSlots() {
        checks.about("words: throws as letters when there is no such slot");
        noSlot("words", (desk, a) -> desk.words(a, 0));
        noSlot("words", (desk, a) -> desk.words(a, 16));
    }

    private void wordsRange() {
        checks.about("words: throws as letters when n is not 0 .. 16");
        range("words", 16, (desk, n) -> desk.words(0, n));
        checks.about("words: throws as letters, also when it is too large");
        CountedDesk desk = new CountedDesk();
        tellTooLarge(desk, 0);
        checks.isThrown("words(0, 17)", IllegalArgumentException.class, () -> desk.words(0, 17));
        checks.isThrown("words(0, -1)", IllegalArgumentException.class, () -> desk.words(0, -1));
    }

    private void wordsOrder() {
        checks.about("words: IndexOutOfBoundsException, else IllegalArgumentException");
        slotFirst("words, slot -1", 16, (desk, n) -> desk.words(-1, n));
        slotFirst("words, slot 16", 16, (desk, n) -> desk.words(16, n));
    }

    private void endsSlots() {
        checks.about("ends: throws as states");
        noSlot("ends", (desk, a) -> desk.ends(a));
    }

    private void findSlots() {
        checks.about("find: throws as states");
        noSlot("find", (desk, a) -> desk.find(a, 0));
        noSlot("find, none such", (desk, a) -> desk.find(a, -1));
        noSlot("find, none such", (desk, a) -> desk.find(a, Long.MAX_VALUE));
    }

    private void lookSlots() {
        checks.about("look: IndexOutOfBoundsException when it is not there");
        for (int what = -1; what <= 5; what++) {
            int each = what;
            noSlot("look at " + what, (desk, a) -> desk.look(a, each));
        }
    }

    /** What a desk tells of all its slots, of the first ones most, and of its witness. */
    private static String told(CountedDesk desk) {
        StringBuilder text = new StringBuilder();
        for (int i = -2; i < 4; i++) {
            text.append(desk.witness(i)).append(' ');
        }
        for (int slot = 0; slot < 16; slot++) {
            text.append("/ ").append(desk.look(slot, 0)).append(' ').append(desk.look(slot, 1)).append(' ');
        }
        for (int slot = 0; slot < 6; slot++) {
            for (int what = 2; what < 5; what++) {
                text.append(desk.look(slot, what)).append(' ');
            }
            text.append(desk.states(slot)).append(' ').append(desk.languages(slot)).append(' ');
            text.append(desk.words(slot, 3)).append(' ').append(desk.find(slot, 2)).append(' ').append(desk.ends(slot));
        }
        return text.toString();
    }

    private static CountedDesk used() {
        CountedDesk desk = new CountedDesk();
        tellChain(desk, 50);
        desk.tell(0, "(01|2*)&!(3*)");
        desk.tell(2, "0*0*0*" + "2".repeat(25));
        desk.tell(3, "312");
        desk.tell(4, "31[23]");
        tellTooLarge(desk, 5);
        desk.turn(6, 1, NOT);
        desk.equal(3, 4);
        return desk;
    }

    private void refusedCallsChangeNothing() {
        checks.about("a call that throws, or that answers NONE for a size above 100, changes nothing");
        CountedDesk desk = used();
        String before = told(used());
        for (int how = 0; how <= 2; how++) {
            checks.due("join", desk.join(0, 1, 2, how), -1);
            checks.due("join", desk.join(1, 1, 5, how), -1);
        }
        checks.due("turn", desk.turn(3, 6, STAR), -1);
        checks.due("turn", desk.turn(6, 6, STAR), -1);
        checks.due("derive", desk.derive(4, 2, 0), -1);
        int no = Integer.MAX_VALUE;
        LongSupplier[] calls = {
            () -> desk.letters(0, 17), () -> desk.letters(0, -1), () -> desk.letters(16, 3),
            () -> desk.join(0, 3, 4, 3), () -> desk.join(0, 3, 4, -1), () -> desk.join(0, 16, 4, 0),
            () -> desk.join(0, 3, 16, 1), () -> desk.join(-1, 3, 4, 2), () -> desk.turn(0, 3, 2),
            () -> desk.turn(0, 3, -1), () -> desk.turn(0, 16, 0), () -> desk.turn(16, 0, 1),
            () -> desk.derive(3, 3, 4), () -> desk.derive(3, 3, -1), () -> desk.derive(3, 16, 3),
            () -> desk.derive(16, 3, 3), () -> desk.has(0, 0, 17), () -> desk.words(0, 17),
            () -> desk.equal(0, 16), () -> desk.equal(16, 0), () -> desk.equal(-1, no),
            () -> desk.similar(0, 16), () -> desk.states(no), () -> desk.languages(no),
            () -> desk.ends(no), () -> desk.find(no, 0), () -> desk.look(no, 0)
        };
        for (int i = 0; i < calls.length; i++) {
            boolean thrown = false;
            try {
                calls[i].getAsLong();
            } catch (IndexOutOfBoundsException | IllegalArgumentException e) {
                thrown = true;
            }
            checks.isTrue("call " + i + " throws", thrown);
        }
        checks.isTrue("told the same", before.equals(told(desk)));
    }

    private void askingChangesNothing() {
        checks.about("questions change no slot, and only equal() changes the witness");
        CountedDesk desk = used();
        String before = told(used());
        for (int a = 0; a < 6; a++) {
            desk.similar(a, 0);
            desk.has(a, 5, 3);
            desk.states(a);
            desk.languages(a);
            desk.words(a, 16);
            desk.ends(a);
            desk.find(a, 1000);
            desk.look(a, a);
            desk.witness(a);
        }
        checks.isTrue("told the same", before.equals(told(desk)));
    }

    private void manyCalls() {
        checks.about("an object is used for at most 512 calls after it has been made");
        CountedDesk desk = new CountedDesk();
        int round = 0;
        while (desk.calls() <= CountedDesk.PROMISED_CALLS - 60) {
            int slot = round % 12;
            desk.tell(slot, "(0|" + round % 4 + "1*2)(3|e)(0*1)*");
            desk.turn(slot, slot, NOT);
            desk.tell(12, "[03]*&!(." + round % 3 + ".)");
            checks.due("states of round " + round, desk.states(12), round % 3 == 0 ? 6 : 4);
            checks.due("not the same", desk.equal(slot, 12), 0);
            round++;
        }
        desk.tell(0, ".*0......");
        while (desk.calls() < CountedDesk.PROMISED_CALLS - 2) {
            checks.due("states after " + desk.calls() + " calls", desk.states(0), 128);
        }
        checks.due("call 511", desk.derive(1, 0, 0), 28);
        checks.due("call 512", desk.languages(1), 128);
        checks.due("calls", desk.calls(), CountedDesk.PROMISED_CALLS);
    }
}
