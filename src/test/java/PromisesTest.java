import java.util.function.IntToLongFunction;

/** Each promise of the document: ordinary inputs, the edges it names, and wrong inputs. */
public final class PromisesTest {
    private static final int CAT = 0;
    private static final int OR = 1;
    private static final int AND = 2;
    private static final int NOT = 0;
    private static final int STAR = 1;
    private static final int EMPTY = 16;
    private static final int ALL_LETTERS = 15;
    private static final long UNIT = 1L << 36;

    private static final int[] WRONG_SLOTS = {-1, 16, 17, 100, Integer.MIN_VALUE, Integer.MAX_VALUE};

    private final Checks checks = new Checks();
    private DerivativeDesk desk = new DerivativeDesk();

    public static void main(String[] args) {
        PromisesTest test = new PromisesTest();
        test.promise1NewObject();
        test.promise2Letters();
        test.promise3JoinCat();
        test.promise3JoinOr();
        test.promise3JoinAnd();
        test.promise3JoinSizes();
        test.promise4Turn();
        test.promise5DeriveLeaves();
        test.promise5DeriveParts();
        test.promise5DeriveSizes();
        test.promise6Similar();
        test.promise7Has();
        test.promise7HasOfTooLarge();
        test.promise8States();
        test.promise8StatesEdges();
        test.promise9Languages();
        test.promise10Equal();
        test.promise11Witness();
        test.promise11LongWitness();
        test.promise12Words();
        test.promise13Ends();
        test.promise14Find();
        test.promise15Look();
        test.wrongSlots();
        test.wrongArguments();
        test.wrongCallsChangeNothing();
        test.checks.end();
    }

    private void renew() {
        desk = new DerivativeDesk();
    }

    private void look(int slot, int sort, int size, int nullable, int count, int letters) {
        checks.due("look(" + slot + ", 0)", desk.look(slot, 0), sort);
        checks.due("look(" + slot + ", 1)", desk.look(slot, 1), size);
        checks.due("look(" + slot + ", 2)", desk.look(slot, 2), nullable);
        checks.due("look(" + slot + ", 3)", desk.look(slot, 3), count);
        checks.due("look(" + slot + ", 4)", desk.look(slot, 4), letters);
    }

    private void lookNone(int slot) {
        look(slot, 0, 1, 0, 0, 0);
    }

    private void lookEmpty(int slot) {
        look(slot, 1, 1, 1, 0, 0);
    }

    private void lookAll(int slot) {
        look(slot, 6, 2, 1, 1, 0);
    }

    /**
     * Slot becomes CAT of parts, told by one character each: 0 .. 3 the letter, * STAR of all letters,
     * . all letters, A, B, C, D the star of letter 0 .. 3, P, Q, R, S the letter or EMPTY. Uses 14, 15.
     */
    private int chain(int slot, String parts) {
        int size = desk.letters(slot, EMPTY);
        for (char part : parts.toCharArray()) {
            if (part >= '0' && part <= '3') {
                desk.letters(15, 1 << part - '0');
            } else if (part >= 'A' && part <= 'D') {
                desk.letters(15, 1 << part - 'A');
                desk.turn(15, 15, STAR);
            } else if (part >= 'P' && part <= 'S') {
                desk.letters(15, 1 << part - 'P');
                desk.letters(14, EMPTY);
                desk.join(15, 15, 14, OR);
            } else {
                desk.letters(15, ALL_LETTERS);
                if (part == '*') {
                    desk.turn(15, 15, STAR);
                }
            }
            size = desk.join(slot, slot, 15, CAT);
        }
        return size;
    }

    private void all(int slot) {
        desk.letters(slot, 0);
        desk.turn(slot, slot, NOT);
    }

    private void promise1NewObject() {
        renew();
        for (int slot = 0; slot < 16; slot++) {
            lookNone(slot);
            checks.due("states of a new slot", desk.states(slot), 1);
            checks.due("similar to slot 0", desk.similar(slot, 0) ? 1 : 0, 1);
        }
        checks.due("witness(-1), new", desk.witness(-1), -1);
        checks.due("witness(0), new", desk.witness(0), -1);
        DerivativeDesk other = new DerivativeDesk();
        other.letters(3, 5);
        checks.due("objects have slots of their own", desk.look(3, 0), 0);
    }

    private void promise2Letters() {
        renew();
        checks.due("letters(0, 0)", desk.letters(0, 0), 1);
        lookNone(0);
        for (int mask = 1; mask <= 15; mask++) {
            checks.due("letters(4, mask)", desk.letters(4, mask), 1);
            look(4, 2, 1, 0, 0, mask);
            for (int letter = 0; letter < 4; letter++) {
                checks.due("class has letter", desk.has(4, letter, 1) ? 1 : 0, mask >> letter & 1);
            }
        }
        checks.due("letters(15, 16)", desk.letters(15, 16), 1);
        lookEmpty(15);
        checks.due("letters(15, 0)", desk.letters(15, 0), 1);
        lookNone(15);
    }

    private void promise3JoinCat() {
        renew();
        desk.letters(0, 1);
        desk.letters(1, 2);
        desk.letters(2, EMPTY);
        checks.due("CAT", desk.join(3, 0, 1, CAT), 3);
        look(3, 3, 3, 0, 2, 0);
        checks.isTrue("CAT has 01", desk.has(3, 1, 2) && !desk.has(3, 4, 2));
        checks.due("CAT with NONE", desk.join(4, 3, 9, CAT), 1);
        lookNone(4);
        checks.due("CAT of NONE", desk.join(4, 9, 3, CAT), 1);
        lookNone(4);
        checks.due("CAT with NONE and EMPTY", desk.join(4, 9, 2, CAT), 1);
        lookNone(4);
        checks.due("CAT with EMPTY", desk.join(4, 3, 2, CAT), 3);
        checks.due("CAT with EMPTY is the other", desk.similar(4, 3) ? 1 : 0, 1);
        checks.due("CAT of EMPTY", desk.join(4, 2, 3, CAT), 3);
        checks.due("CAT of EMPTY is the other", desk.similar(4, 3) ? 1 : 0, 1);
        checks.due("CAT of EMPTYs", desk.join(4, 2, 2, CAT), 1);
        lookEmpty(4);
        checks.due("CAT of two CATs", desk.join(5, 3, 3, CAT), 7);
        desk.join(6, 1, 3, CAT);
        desk.join(6, 0, 6, CAT);
        checks.due("CAT leans to the right", desk.similar(5, 6) ? 1 : 0, 1);
        desk.derive(7, 5, 0);
        look(7, 3, 5, 0, 2, 0);
        all(8);
        checks.due("CAT with NOT of NONE stays", desk.join(8, 8, 8, CAT), 5);
    }

    private void promise3JoinOr() {
        renew();
        desk.letters(0, 1);
        desk.letters(1, 6);
        checks.due("OR of classes", desk.join(2, 0, 1, OR), 1);
        look(2, 2, 1, 0, 0, 7);
        chain(3, "01");
        chain(4, "23");
        checks.due("OR", desk.join(5, 3, 4, OR), 7);
        look(5, 4, 7, 0, 2, 0);
        checks.due("OR into OR", desk.join(6, 5, 0, OR), 8);
        look(6, 4, 8, 0, 3, 0);
        checks.due("OR merges classes of both", desk.join(6, 1, 6, OR), 8);
        look(6, 4, 8, 0, 3, 0);
        checks.isTrue("the merged class has its letters", desk.has(6, 0, 1) && desk.has(6, 2, 1) && !desk.has(6, 3, 1));
        checks.due("OR of OR and OR", desk.join(7, 6, 5, OR), 8);
        checks.due("of similar ones one", desk.similar(7, 6) ? 1 : 0, 1);
        checks.due("OR with itself", desk.join(7, 3, 3, OR), 3);
        look(7, 3, 3, 0, 2, 0);
        checks.due("OR with NONE", desk.join(7, 3, 9, OR), 3);
        checks.due("OR with NONE is the other", desk.similar(7, 3) ? 1 : 0, 1);
        checks.due("OR of NONEs", desk.join(7, 9, 10, OR), 1);
        lookNone(7);
        all(8);
        checks.due("OR with NOT of NONE", desk.join(7, 5, 8, OR), 2);
        lookAll(7);
        desk.letters(10, EMPTY);
        checks.due("OR with EMPTY stays", desk.join(7, 3, 10, OR), 5);
        look(7, 4, 5, 1, 2, 0);
        checks.due("OR of a class and EMPTY", desk.join(7, 0, 10, OR), 3);
        desk.letters(11, 7);
        desk.letters(12, 8);
        desk.join(11, 11, 12, OR);
        look(11, 2, 1, 0, 0, 15);
    }

    private void promise3JoinAnd() {
        renew();
        desk.letters(0, 7);
        desk.letters(1, 14);
        checks.due("AND of classes", desk.join(2, 0, 1, AND), 1);
        look(2, 2, 1, 0, 0, 6);
        desk.letters(3, 8);
        checks.due("AND of classes without a common letter", desk.join(2, 0, 3, AND), 1);
        lookNone(2);
        chain(4, "*0*");
        chain(5, "*1*");
        checks.due("AND", desk.join(6, 4, 5, AND), 15);
        look(6, 5, 15, 0, 2, 0);
        checks.due("AND into AND", desk.join(7, 6, 0, AND), 16);
        look(7, 5, 16, 0, 3, 0);
        checks.due("AND merges classes", desk.join(7, 1, 7, AND), 16);
        look(7, 5, 16, 0, 3, 0);
        checks.due("AND with a class that has no letter in common", desk.join(7, 7, 3, AND), 1);
        lookNone(7);
        checks.due("of similar ones one", desk.join(7, 6, 4, AND), 15);
        desk.letters(13, 0);
        checks.due("AND with NONE", desk.join(7, 6, 13, AND), 1);
        lookNone(7);
        all(8);
        checks.due("AND with NOT of NONE", desk.join(7, 6, 8, AND), 15);
        checks.due("NOT of NONE goes", desk.similar(7, 6) ? 1 : 0, 1);
        checks.due("AND of NOTs of NONE", desk.join(7, 8, 8, AND), 2);
        lookAll(7);
        desk.letters(10, EMPTY);
        checks.due("AND of EMPTY and a class stays", desk.join(7, 10, 0, AND), 3);
        look(7, 5, 3, 0, 2, 0);
        desk.join(9, 4, 5, OR);
        checks.due("OR inside AND stays", desk.join(9, 9, 0, AND), 17);
        look(9, 5, 17, 0, 2, 0);
    }

    private void promise3JoinSizes() {
        renew();
        StringBuilder fifty = new StringBuilder();
        for (int i = 0; i < 50; i++) {
            fifty.append(i % 4);
        }
        checks.due("CAT of fifty", chain(0, fifty.toString()), 99);
        desk.letters(1, 1);
        desk.letters(2, 2);
        checks.due("above 100", desk.join(2, 0, 1, CAT), -1);
        look(2, 2, 1, 0, 0, 2);
        checks.due("OR above 100", desk.join(0, 0, 1, OR), -1);
        look(0, 3, 99, 0, 2, 0);
        checks.due("NOT to 100", desk.turn(3, 0, NOT), 100);
        checks.due("STAR to 101", desk.turn(3, 3, STAR), -1);
        look(3, 6, 100, 1, 1, 0);
        checks.due("NOT NOT", desk.turn(3, 3, NOT), 99);
        checks.due("OR with similar parts is not above 100", desk.join(4, 3, 0, OR), 99);
        desk.derive(5, 0, 0);
        checks.due("OR to above 100", desk.join(5, 5, 0, OR), -1);
        checks.due("join may put into its own slot", desk.join(1, 1, 1, CAT), 3);
        chain(6, fifty.substring(0, 49));
        checks.due("97", desk.look(6, 1), 97);
        desk.letters(7, EMPTY);
        checks.due("OR to 99", desk.join(6, 6, 7, OR), 99);
        desk.letters(8, 1);
        checks.due("OR to 100", desk.join(6, 6, 8, OR), 100);
        checks.due("a class more is merged", desk.join(6, 6, 2, OR), 100);
    }

    private void promise4Turn() {
        renew();
        desk.letters(0, 3);
        checks.due("NOT", desk.turn(1, 0, NOT), 2);
        look(1, 6, 2, 1, 1, 0);
        checks.isTrue("NOT has the others", desk.has(1, 0, 0) && !desk.has(1, 0, 1) && desk.has(1, 2, 1) && desk.has(1, 0, 2));
        checks.due("NOT of NOT", desk.turn(1, 1, NOT), 1);
        look(1, 2, 1, 0, 0, 3);
        checks.due("STAR", desk.turn(2, 0, STAR), 2);
        look(2, 7, 2, 1, 1, 0);
        checks.due("STAR of STAR", desk.turn(3, 2, STAR), 2);
        checks.due("STAR of STAR is that", desk.similar(3, 2) ? 1 : 0, 1);
        checks.due("STAR of NONE", desk.turn(4, 9, STAR), 1);
        lookEmpty(4);
        checks.due("STAR of EMPTY", desk.turn(4, 4, STAR), 1);
        lookEmpty(4);
        checks.due("NOT of NONE", desk.turn(5, 9, NOT), 2);
        lookAll(5);
        checks.due("STAR of NOT of NONE stays", desk.turn(6, 5, STAR), 3);
        checks.due("NOT of NOT of NONE", desk.turn(5, 5, NOT), 1);
        lookNone(5);
        checks.due("NOT of STAR of a class", desk.turn(7, 2, NOT), 3);
        look(7, 6, 3, 0, 1, 0);
        checks.due("NOT of EMPTY", desk.turn(7, 4, NOT), 2);
        look(7, 6, 2, 0, 1, 0);
        int size = desk.letters(8, 1);
        for (int i = 0; i < 99; i++) {
            size = desk.turn(8, 8, i % 2);
        }
        checks.due("deep", size, 100);
        checks.due("deeper", desk.turn(8, 8, STAR), -1);
        checks.due("deep is kept", desk.look(8, 1), 100);
        // Every fourth turn tells the same words from the third one on; here one or more of 0.
        checks.isTrue("deep has 0 0 0", desk.has(8, 0, 3) && desk.has(8, 0, 16));
        checks.isTrue("deep has no other", !desk.has(8, 0, 0) && !desk.has(8, 1, 2) && !desk.has(8, 1, 16));
        checks.due("deep is too large", desk.states(8), -1);
    }

    private void promise5DeriveLeaves() {
        renew();
        checks.due("of NONE", desk.derive(1, 0, 2), 1);
        lookNone(1);
        desk.letters(0, EMPTY);
        checks.due("of EMPTY", desk.derive(1, 0, 2), 1);
        lookNone(1);
        desk.letters(0, 5);
        for (int letter = 0; letter < 4; letter++) {
            checks.due("of a class", desk.derive(1, 0, letter), 1);
            look(1, 5 >> letter & 1, 1, 5 >> letter & 1, 0, 0);
        }
        all(2);
        checks.due("of NOT of NONE", desk.derive(1, 2, 3), 2);
        lookAll(1);
    }

    private void promise5DeriveParts() {
        renew();
        chain(0, "012");
        checks.due("of CAT", desk.derive(1, 0, 0), 3);
        chain(2, "12");
        checks.due("of CAT: the rest", desk.similar(1, 2) ? 1 : 0, 1);
        checks.due("of CAT by another letter", desk.derive(1, 0, 1), 1);
        lookNone(1);
        chain(0, "A01");
        checks.due("of CAT, first nullable", desk.derive(1, 0, 0), 8);
        look(1, 4, 8, 0, 2, 0);
        desk.letters(3, 2);
        desk.join(4, 0, 3, OR);
        checks.due("OR as it is made", desk.similar(1, 4) ? 1 : 0, 1);
        chain(0, "A");
        checks.due("of STAR", desk.derive(1, 0, 0), 2);
        checks.due("of STAR: it again", desk.similar(1, 0) ? 1 : 0, 1);
        chain(0, "012");
        desk.turn(0, 0, STAR);
        checks.due("of STAR of CAT", desk.derive(1, 0, 0), 10);
        chain(2, "12");
        desk.join(2, 2, 0, CAT);
        checks.due("CAT of the rest and the STAR", desk.similar(1, 2) ? 1 : 0, 1);
        chain(5, "01");
        chain(6, "02");
        desk.join(7, 5, 6, OR);
        checks.due("of OR", desk.derive(8, 7, 0), 1);
        look(8, 2, 1, 0, 0, 6);
        desk.join(7, 5, 6, AND);
        checks.due("of AND", desk.derive(8, 7, 0), 1);
        lookNone(8);
        desk.turn(7, 5, NOT);
        checks.due("of NOT", desk.derive(8, 7, 0), 2);
        look(8, 6, 2, 1, 1, 0);
        checks.due("of NOT by another", desk.derive(8, 7, 3), 2);
        lookAll(8);
        checks.due("into its own slot", desk.derive(5, 5, 0), 1);
        look(5, 2, 1, 0, 0, 2);
    }

    private void promise5DeriveSizes() {
        renew();
        checks.due("chain", chain(0, "AA" + "2".repeat(23)), 51);
        checks.due("derivative of size 100", desk.derive(1, 0, 0), 100);
        checks.due("chain", chain(0, "AQAA" + "2".repeat(12) + "D"), 39);
        checks.due("derivative of size 101", desk.derive(1, 0, 0), -1);
        checks.due("changed nothing", desk.look(1, 1), 100);
        checks.due("states know it", desk.states(0) > 0 ? 1 : 0, 1);
    }

    private void promise6Similar() {
        renew();
        chain(0, "01");
        chain(1, "*2");
        chain(2, "D3");
        desk.join(3, 0, 1, OR);
        desk.join(3, 3, 2, OR);
        desk.join(4, 2, 0, OR);
        desk.join(4, 1, 4, OR);
        checks.due("order in OR", desk.similar(3, 4) ? 1 : 0, 1);
        desk.turn(5, 3, STAR);
        desk.turn(6, 4, STAR);
        desk.join(5, 5, 1, AND);
        desk.join(6, 1, 6, AND);
        checks.due("order in AND and below", desk.similar(5, 6) ? 1 : 0, 1);
        desk.join(7, 0, 1, CAT);
        desk.join(8, 1, 0, CAT);
        checks.due("order in CAT", desk.similar(7, 8) ? 1 : 0, 0);
        desk.join(7, 0, 1, AND);
        desk.join(8, 0, 1, OR);
        checks.due("OR is not AND", desk.similar(7, 8) ? 1 : 0, 0);
        desk.letters(9, ALL_LETTERS);
        desk.turn(9, 9, STAR);
        all(10);
        checks.due("the same words are not similar", desk.similar(9, 10) ? 1 : 0, 0);
        checks.due("a slot and itself", desk.similar(9, 9) ? 1 : 0, 1);
        desk.letters(11, 1);
        desk.letters(12, 2);
        checks.due("classes", desk.similar(11, 12) ? 1 : 0, 0);
    }

    private void promise7Has() {
        renew();
        chain(0, "0123");
        checks.due("the first letter is the highest", desk.has(0, 0b00011011, 4) ? 1 : 0, 1);
        checks.due("backwards", desk.has(0, 0b11100100, 4) ? 1 : 0, 0);
        checks.due("a shorter one", desk.has(0, 0b011011, 3) ? 1 : 0, 0);
        checks.due("bits above are not of the word", desk.has(0, 0xFFFFFF1B, 4) ? 1 : 0, 1);
        chain(1, "3...............");
        checks.due("sixteen letters", desk.has(1, 0xC0000000, 16) ? 1 : 0, 1);
        checks.due("sixteen letters", desk.has(1, -1, 16) ? 1 : 0, 1);
        checks.due("sixteen letters", desk.has(1, 0x7FFFFFFF, 16) ? 1 : 0, 0);
        checks.due("fifteen letters", desk.has(1, -1, 15) ? 1 : 0, 0);
        chain(2, "A");
        checks.due("no letters", desk.has(2, 77, 0) ? 1 : 0, 1);
        checks.due("NONE", desk.has(9, 0, 0) ? 1 : 0, 0);
        chain(3, "01");
        desk.turn(3, 3, STAR);
        checks.due("(01)* has 0101", desk.has(3, 0b00010001, 4) ? 1 : 0, 1);
        checks.due("(01)* has 0100", desk.has(3, 0b00010000, 4) ? 1 : 0, 0);
        desk.turn(4, 3, NOT);
        checks.due("not has 0101", desk.has(4, 0b00010001, 4) ? 1 : 0, 0);
        checks.due("not has 010", desk.has(4, 0b000100, 3) ? 1 : 0, 1);
        chain(5, "*1*");
        desk.join(6, 3, 5, AND);
        checks.due("and", desk.has(6, 0, 0) ? 1 : 0, 0);
        checks.due("and", desk.has(6, 1, 2) ? 1 : 0, 1);
        desk.join(6, 3, 5, OR);
        checks.due("or", desk.has(6, 0, 0) ? 1 : 0, 1);
        checks.due("or", desk.has(6, 0, 1) ? 1 : 0, 0);
        desk.turn(7, 4, STAR);
        checks.due("star of not", desk.has(7, 0b00010001, 4) ? 1 : 0, 1);
        checks.due("star of not", desk.has(7, 1, 2) ? 1 : 0, 1);
    }

    private void promise7HasOfTooLarge() {
        renew();
        chain(0, "*0..........");
        checks.due("too large", desk.states(0), -1);
        for (int at = 0; at < 16; at++) {
            int word = ~(3 << 2 * at);
            checks.due("letter 0 at " + at + " from the end", desk.has(0, word, 16) ? 1 : 0, at == 10 ? 1 : 0);
        }
        chain(1, "ABCDABCDABCDABCDABCDABCDABCDABCDA");
        checks.due("too large", desk.states(1), -1);
        checks.due("rising four times", desk.has(1, 0b00011011000110110001101100011011, 16) ? 1 : 0, 1);
        checks.due("falling twelve times", desk.has(1, 0b11100100111001001110010011100100, 16) ? 1 : 0, 0);
    }

    private void promise8States() {
        renew();
        checks.due("NONE", desk.states(0), 1);
        desk.letters(0, EMPTY);
        checks.due("EMPTY, NONE", desk.states(0), 2);
        desk.letters(0, 1);
        checks.due("class, EMPTY, NONE", desk.states(0), 3);
        desk.letters(0, 15);
        checks.due("class, EMPTY, NONE", desk.states(0), 3);
        all(0);
        checks.due("NOT of NONE", desk.states(0), 1);
        chain(0, "0123");
        checks.due("a chain", desk.states(0), 6);
        checks.due("again", desk.states(0), 6);
        desk.turn(1, 0, NOT);
        checks.due("NOT has as many", desk.states(1), 6);
        desk.derive(0, 0, 0);
        checks.due("after the slot changed", desk.states(0), 5);
        chain(0, "*0.");
        checks.due("all, by two places", desk.states(0), 4);
        desk.letters(2, 1);
        desk.turn(2, 2, STAR);
        desk.letters(3, 1);
        desk.letters(4, EMPTY);
        desk.join(3, 3, 4, OR);
        desk.turn(3, 3, STAR);
        checks.due("STAR", desk.states(2), 2);
        checks.due("STAR of OR with EMPTY", desk.states(3), 2);
    }

    /** AND of words whose length 2, 3 and 25 divide: 150 states. */
    private void buildOneHundredFifty(int slot) {
        all(slot);
        for (int length : new int[] {2, 3, 25}) {
            chain(13, ".".repeat(length));
            desk.turn(13, 13, STAR);
            desk.join(slot, slot, 13, AND);
        }
    }

    private void promise8StatesEdges() {
        renew();
        buildOneHundredFifty(0);
        checks.due("150", desk.states(0), 150);
        checks.due("150, languages", desk.languages(0), 150);
        desk.letters(1, ALL_LETTERS);
        checks.due("one more", desk.join(1, 1, 0, CAT), 63);
        checks.due("151", desk.states(1), -1);
        checks.due("151 again", desk.states(1), -1);
        checks.due("151, languages", desk.languages(1), -1);
        checks.due("151, words", desk.words(1, 16), -1);
        checks.due("151, ends", desk.ends(1), -1);
        checks.due("151, find", desk.find(1, 0), -1);
        checks.due("151, equal", desk.equal(0, 1), -1);
        checks.due("151, equal", desk.equal(1, 0), -1);
        checks.due("151, equal to itself", desk.equal(1, 1), -1);
        desk.derive(1, 1, 3);
        checks.due("the derivative is the 150 again", desk.states(1), 150);
        checks.due("equal", desk.equal(0, 1), 1);
        checks.due("chain", chain(2, "AAABA" + "2".repeat(33)), 80);
        checks.due("a state of size 300", desk.states(2), 38);
        checks.due("chain", chain(2, "AAABBA" + "2".repeat(32)), 81);
        checks.due("a state of size 301", desk.states(2), -1);
    }

    private void promise9Languages() {
        renew();
        checks.due("NONE", desk.languages(0), 1);
        all(0);
        checks.due("all", desk.languages(0), 1);
        desk.letters(0, 1);
        checks.due("class", desk.languages(0), 3);
        desk.letters(1, ALL_LETTERS);
        desk.turn(1, 1, STAR);
        desk.join(2, 1, 1, CAT);
        checks.due("states of all letters twice", desk.states(2), 2);
        checks.due("they tell the same", desk.languages(2), 1);
        chain(3, "0");
        chain(4, "1");
        desk.join(3, 3, 4, CAT);
        desk.turn(5, 3, NOT);
        desk.join(6, 3, 5, AND);
        checks.due("AND of a term and its NOT", desk.languages(6), 1);
        checks.due("has states", desk.states(6), 4);
        chain(7, "*0......");
        checks.due("2^7 and the state of the start", desk.states(7), 128);
        checks.due("the languages", desk.languages(7), 128);
        chain(8, "0123".repeat(12));
        checks.due("a chain has one for each rest, and NONE", desk.languages(8), 50);
    }

    private void promise10Equal() {
        renew();
        desk.letters(0, ALL_LETTERS);
        desk.turn(0, 0, STAR);
        all(1);
        checks.due("all letters' star, and all", desk.equal(0, 1), 1);
        desk.letters(2, 1);
        desk.letters(3, 2);
        desk.turn(4, 2, STAR);
        desk.turn(5, 3, STAR);
        desk.join(6, 4, 5, CAT);
        desk.turn(6, 6, STAR);
        desk.join(7, 2, 3, OR);
        desk.turn(7, 7, STAR);
        checks.due("(0*1*)* and (0|1)*", desk.equal(6, 7), 1);
        desk.join(8, 4, 5, OR);
        checks.due("(0*|1*) and (0|1)*", desk.equal(8, 7), 0);
        checks.due("a slot and itself", desk.equal(8, 8), 1);
        chain(9, "*0*");
        chain(10, "*1*");
        desk.turn(9, 9, NOT);
        desk.turn(10, 10, NOT);
        desk.join(11, 9, 10, OR);
        desk.turn(9, 9, NOT);
        desk.turn(10, 10, NOT);
        desk.join(12, 9, 10, AND);
        desk.turn(12, 12, NOT);
        checks.due("De Morgan", desk.equal(11, 12), 1);
        checks.due("De Morgan, not similar", desk.similar(11, 12) ? 1 : 0, 0);
        desk.letters(13, EMPTY);
        desk.join(13, 13, 2, AND);
        checks.due("EMPTY and a class: NONE", desk.equal(13, 15), 0);
        desk.letters(15, 0);
        checks.due("EMPTY and a class: NONE", desk.equal(13, 15), 1);
    }

    private void witnessIs(String word) {
        checks.due("witness(-1)", desk.witness(-1), word.length());
        for (int i = 0; i < word.length(); i++) {
            checks.due("witness(" + i + ")", desk.witness(i), word.charAt(i) - '0');
        }
        checks.due("witness past the end", desk.witness(word.length()), -1);
        checks.due("witness(-2)", desk.witness(-2), -1);
        checks.due("witness(MIN)", desk.witness(Integer.MIN_VALUE), -1);
        checks.due("witness(MAX)", desk.witness(Integer.MAX_VALUE), -1);
    }

    private void promise11Witness() {
        renew();
        desk.letters(0, EMPTY);
        checks.due("EMPTY and NONE", desk.equal(0, 1), 0);
        witnessIs("");
        chain(2, "A");
        checks.due("0* and EMPTY", desk.equal(2, 0), 0);
        witnessIs("0");
        checks.due("EMPTY and 0*", desk.equal(0, 2), 0);
        witnessIs("0");
        chain(3, "30");
        chain(4, "123");
        desk.join(5, 3, 4, OR);
        checks.due("the shorter one is the least", desk.equal(5, 1), 0);
        witnessIs("30");
        chain(6, "21");
        chain(7, "13");
        desk.join(8, 6, 7, OR);
        checks.due("the lesser letter first", desk.equal(8, 1), 0);
        witnessIs("13");
        desk.letters(9, 1);
        desk.letters(10, 2);
        desk.letters(8, 0);
        desk.letters(2, 0);
        witnessIs("13");
        boolean thrown = false;
        try {
            desk.equal(0, 16);
        } catch (IndexOutOfBoundsException e) {
            thrown = true;
        }
        checks.isTrue("equal(0, 16) throws", thrown);
        witnessIs("13");
        checks.due("equal ones", desk.equal(0, 0), 1);
        checks.due("no witness now", desk.witness(-1), -1);
        checks.due("no witness now", desk.witness(0), -1);
        checks.due("others", desk.equal(9, 10), 0);
        witnessIs("0");
        chain(11, "*0.......");
        checks.due("too large", desk.equal(9, 11), -1);
        checks.due("no witness now", desk.witness(-1), -1);
        checks.due("no witness now", desk.witness(0), -1);
    }

    private void promise11LongWitness() {
        renew();
        buildOneHundredFifty(0);
        desk.letters(1, EMPTY);
        checks.due("150 letters make the next word", desk.equal(0, 1), 0);
        witnessIs("0".repeat(150));
        String letters = "3120".repeat(6);
        chain(2, letters);
        chain(3, letters + "2");
        desk.join(4, 2, 3, OR);
        checks.due("one word more", desk.equal(2, 4), 0);
        witnessIs(letters + "2");
    }

    private void promise12Words() {
        renew();
        checks.due("NONE", desk.words(0, 0), 0);
        checks.due("NONE", desk.words(0, 16), 0);
        all(0);
        for (int n = 0; n <= 16; n++) {
            checks.due("all of " + n, desk.words(0, n), 1L << 2 * n);
        }
        desk.letters(1, EMPTY);
        checks.due("EMPTY", desk.words(1, 0), 1);
        checks.due("EMPTY", desk.words(1, 1), 0);
        desk.letters(1, 11);
        checks.due("class", desk.words(1, 1), 3);
        checks.due("class", desk.words(1, 0), 0);
        checks.due("class", desk.words(1, 2), 0);
        chain(2, "*0*");
        checks.due("with a 0, of 3", desk.words(2, 3), 64 - 27);
        checks.due("with a 0, of 16", desk.words(2, 16), 4294967296L - 43046721L);
        desk.turn(2, 2, NOT);
        checks.due("without a 0, of 16", desk.words(2, 16), 43046721L);
    }

    private void promise13Ends() {
        renew();
        checks.due("NONE", desk.ends(0), 1);
        desk.letters(0, EMPTY);
        checks.due("EMPTY", desk.ends(0), 1);
        desk.letters(0, 15);
        checks.due("class", desk.ends(0), 1);
        desk.turn(1, 0, STAR);
        checks.due("STAR", desk.ends(1), 0);
        desk.turn(1, 0, NOT);
        checks.due("NOT of a class", desk.ends(1), 0);
        chain(2, "0123PPQR");
        checks.due("a chain", desk.ends(2), 1);
        desk.turn(3, 2, NOT);
        checks.due("NOT of a chain", desk.ends(3), 0);
        chain(4, "A1");
        chain(5, "D1");
        desk.join(6, 4, 5, AND);
        checks.due("0*1 and 3*1", desk.ends(6), 1);
        chain(7, "A0");
        chain(8, "A1");
        desk.join(9, 7, 8, AND);
        checks.due("0*0 and 0*1: no word, but circles", desk.ends(9), 1);
        chain(10, "0123012301230123A");
        checks.due("a circle at the end", desk.ends(10), 0);
        chain(10, "A0123012301230123");
        checks.due("a circle at the start", desk.ends(10), 0);
        desk.letters(11, ALL_LETTERS);
        desk.turn(11, 11, STAR);
        desk.turn(11, 11, NOT);
        checks.due("NOT of all letters' star", desk.ends(11), 1);
    }

    private void promise14Find() {
        renew();
        checks.due("NONE", desk.find(0, 0), -1);
        desk.letters(0, EMPTY);
        checks.due("EMPTY", desk.find(0, 0), 0);
        checks.due("EMPTY, second", desk.find(0, 1), -1);
        checks.due("EMPTY, before", desk.find(0, -1), -1);
        all(1);
        long index = 0;
        for (int n = 0; n <= 3; n++) {
            for (long word = 0; word < 1L << 2 * n; word++) {
                checks.due("all, " + index, desk.find(1, index), n * UNIT + word);
                index++;
            }
        }
        long shorter = ((1L << 32) - 1) / 3;
        checks.due("the first of 16 letters", desk.find(1, shorter), 16 * UNIT);
        checks.due("the last of 15 letters", desk.find(1, shorter - 1), 15 * UNIT + (1L << 30) - 1);
        checks.due("the last of 16 letters", desk.find(1, shorter + (1L << 32) - 1), 16 * UNIT + (1L << 32) - 1);
        checks.due("none past it", desk.find(1, shorter + (1L << 32)), -1);
        checks.due("none past it", desk.find(1, Long.MAX_VALUE), -1);
        checks.due("none before", desk.find(1, Long.MIN_VALUE), -1);
        chain(2, "30");
        chain(3, "123");
        desk.join(4, 2, 3, OR);
        checks.due("the shorter one first", desk.find(4, 0), 2 * UNIT + 0b1100);
        checks.due("then the longer", desk.find(4, 1), 3 * UNIT + 0b011011);
        checks.due("then none", desk.find(4, 2), -1);
        chain(5, ".".repeat(17));
        checks.due("of 17 letters", desk.find(5, 0), -1);
        chain(5, "3".repeat(16));
        checks.due("of 16 letters", desk.find(5, 0), 16 * UNIT + 0xFFFFFFFFL);
        chain(6, "*0*");
        checks.due("with a 0", desk.find(6, 0), UNIT);
        checks.due("with a 0: 00", desk.find(6, 1), 2 * UNIT);
        checks.due("with a 0: 10", desk.find(6, 5), 2 * UNIT + 4);
        checks.due("with a 0: 30", desk.find(6, 7), 2 * UNIT + 12);
        checks.due("with a 0: 000", desk.find(6, 8), 3 * UNIT);
    }

    private void promise15Look() {
        renew();
        chain(0, "01");
        look(0, 3, 3, 0, 2, 0);
        chain(0, "AB");
        look(0, 3, 5, 1, 2, 0);
        chain(0, "0B");
        look(0, 3, 4, 0, 2, 0);
        chain(1, "01");
        chain(2, "C");
        chain(3, "D");
        desk.join(4, 1, 2, OR);
        look(4, 4, 6, 1, 2, 0);
        desk.join(4, 4, 3, OR);
        look(4, 4, 8, 1, 3, 0);
        desk.join(5, 1, 2, AND);
        look(5, 5, 6, 0, 2, 0);
        desk.join(5, 3, 2, AND);
        look(5, 5, 5, 1, 2, 0);
        look(2, 7, 2, 1, 1, 0);
        desk.turn(6, 2, NOT);
        look(6, 6, 3, 0, 1, 0);
        desk.letters(7, 13);
        look(7, 2, 1, 0, 0, 13);
        for (int what : new int[] {-1, 5, 6, 100, Integer.MIN_VALUE, Integer.MAX_VALUE}) {
            checks.due("look at " + what, desk.look(7, what), -1);
        }
    }

    private void noSlot(String call, IntToLongFunction made) {
        for (int slot : WRONG_SLOTS) {
            checks.isThrown(call + " of slot " + slot, IndexOutOfBoundsException.class, () -> made.applyAsLong(slot));
        }
    }

    private void wrongSlots() {
        renew();
        noSlot("letters", s -> desk.letters(s, 1));
        noSlot("letters, both wrong", s -> desk.letters(s, 17));
        noSlot("join", s -> desk.join(s, 0, 0, 0));
        noSlot("join", s -> desk.join(0, s, 0, 1));
        noSlot("join", s -> desk.join(0, 0, s, 2));
        noSlot("join, both wrong", s -> desk.join(0, 0, s, 3));
        noSlot("turn", s -> desk.turn(s, 0, 0));
        noSlot("turn", s -> desk.turn(0, s, 1));
        noSlot("turn, both wrong", s -> desk.turn(0, s, 2));
        noSlot("derive", s -> desk.derive(s, 0, 0));
        noSlot("derive", s -> desk.derive(0, s, 3));
        noSlot("derive, both wrong", s -> desk.derive(0, s, 4));
        noSlot("similar", s -> desk.similar(s, 0) ? 1 : 0);
        noSlot("similar", s -> desk.similar(0, s) ? 1 : 0);
        noSlot("has", s -> desk.has(s, 0, 0) ? 1 : 0);
        noSlot("has, both wrong", s -> desk.has(s, 0, 17) ? 1 : 0);
        noSlot("states", s -> desk.states(s));
        noSlot("languages", s -> desk.languages(s));
        noSlot("equal", s -> desk.equal(s, 0));
        noSlot("equal", s -> desk.equal(0, s));
        noSlot("words", s -> desk.words(s, 0));
        noSlot("words, both wrong", s -> desk.words(s, -1));
        noSlot("ends", s -> desk.ends(s));
        noSlot("find", s -> desk.find(s, 0));
        noSlot("find, none such", s -> desk.find(s, -1));
        noSlot("look", s -> desk.look(s, 0));
        noSlot("look, none such", s -> desk.look(s, 9));
    }

    private void noValue(String call, int firstWrong, IntToLongFunction made) {
        for (int value : new int[] {-1, firstWrong, firstWrong + 1, Integer.MIN_VALUE, Integer.MAX_VALUE}) {
            checks.isThrown(call + " with " + value, IllegalArgumentException.class, () -> made.applyAsLong(value));
        }
    }

    private void wrongArguments() {
        renew();
        noValue("letters", 17, x -> desk.letters(0, x));
        noValue("join", 3, x -> desk.join(0, 1, 2, x));
        noValue("turn", 2, x -> desk.turn(0, 1, x));
        noValue("derive", 4, x -> desk.derive(0, 1, x));
        noValue("has", 17, x -> desk.has(0, 0, x) ? 1 : 0);
        noValue("words", 17, x -> desk.words(0, x));
        chain(1, "*0.......");
        noValue("words of a too large one", 17, x -> desk.words(1, x));
    }

    private void wrongCallsChangeNothing() {
        renew();
        chain(0, "01");
        chain(1, "C");
        checks.due("equal", desk.equal(0, 1), 0);
        noValue("letters", 17, x -> desk.letters(0, x));
        noValue("join", 3, x -> desk.join(0, 1, 1, x));
        noValue("turn", 2, x -> desk.turn(0, 1, x));
        noValue("derive", 4, x -> desk.derive(0, 1, x));
        noSlot("join", s -> desk.join(0, 1, s, 0));
        noSlot("turn", s -> desk.turn(0, s, 0));
        noSlot("derive", s -> desk.derive(0, s, 0));
        noSlot("equal", s -> desk.equal(s, 0));
        look(0, 3, 3, 0, 2, 0);
        witnessIs("");
    }
}
