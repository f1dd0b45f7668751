/** The section Terms: a test of its own for each sentence that names a boundary case. */
public final class TermsBoundaryTest {
    private static final int NONE = 0;
    private static final int EMPTY = 1;
    private static final int CLASS = 2;
    private static final int CAT = 3;
    private static final int OR = 4;
    private static final int AND = 5;
    private static final int NOT = 6;
    private static final int STAR = 7;

    private final Checks checks = new Checks();

    public static void main(String[] args) {
        TermsBoundaryTest test = new TermsBoundaryTest();
        test.lettersAndWords();
        test.leaves();
        test.orOfOr();
        test.orOfClasses();
        test.orOfSimilar();
        test.orWithNone();
        test.orWithAll();
        test.orWithOneLeft();
        test.orWithNoneLeft();
        test.andOfAnd();
        test.andOfClasses();
        test.andOfClassesWithoutCommonLetter();
        test.andOfSimilar();
        test.andWithAll();
        test.andWithNone();
        test.andWithOneLeft();
        test.andWithNoneLeft();
        test.catWithNone();
        test.catWithEmpty();
        test.catOfCat();
        test.notOfNot();
        test.starOfStar();
        test.starOfNoneOrEmpty();
        test.similar();
        test.sizes();
        test.nullable();
        test.derivativeOfLeaves();
        test.derivativeOfCat();
        test.derivativeOfOr();
        test.derivativeOfAnd();
        test.derivativeOfNot();
        test.derivativeOfStar();
        test.statesOnce();
        test.tooManyStates();
        test.tooLargeStates();
        test.onlyStatesAreTooLarge();
        test.slots();
        test.checks.end();
    }

    private void look(CountedDesk desk, String text, int sort, int size, int nullable, int count, int letters) {
        checks.due("sort of " + text, desk.look(0, 0), sort);
        checks.due("size of " + text, desk.look(0, 1), size);
        checks.due("nullable is " + text, desk.look(0, 2), nullable);
        checks.due("how many has " + text, desk.look(0, 3), count);
        checks.due("letters of " + text, desk.look(0, 4), letters);
    }

    /** A term is kept so: its sort, size, whether it is nullable, how many it has, its letters. */
    private void kept(String text, int sort, int size, int nullable, int count, int letters) {
        CountedDesk desk = new CountedDesk();
        checks.due("the answer for " + text, desk.tell(0, text), size);
        look(desk, text, sort, size, nullable, count, letters);
    }

    private void keptAsNone(String text) {
        kept(text, NONE, 1, 0, 0, 0);
    }

    private void keptAsEmpty(String text) {
        kept(text, EMPTY, 1, 1, 0, 0);
    }

    private void keptAsAll(String text) {
        kept(text, NOT, 2, 1, 1, 0);
    }

    private void same(String text, String other) {
        similarIs(text, other, 1);
    }

    private void notSame(String text, String other) {
        similarIs(text, other, 0);
    }

    private void similarIs(String text, String other, int due) {
        CountedDesk desk = new CountedDesk();
        desk.tell(0, text);
        desk.tell(1, other);
        checks.due("similar " + text + " and " + other, desk.similar(0, 1), due);
        checks.due("similar " + other + " and " + text, desk.similar(1, 0), due);
    }

    /** The derivative of a term is kept so. */
    private void derived(String text, int letter, int sort, int size, int nullable, int count, int letters) {
        CountedDesk desk = new CountedDesk();
        desk.tell(0, text);
        String told = "derivative of " + text + " by " + letter;
        checks.due("the answer for the " + told, desk.derive(0, 0, letter), size);
        look(desk, told, sort, size, nullable, count, letters);
    }

    private void derivedTo(String text, int letter, String due) {
        CountedDesk desk = new CountedDesk();
        desk.tell(0, text);
        int size = desk.tell(1, due);
        String told = "derivative of " + text + " by " + letter;
        checks.due("size of the " + told, desk.derive(0, 0, letter), size);
        checks.due("the " + told + " is " + due, desk.similar(0, 1), 1);
    }

    private void derivedToNone(String text, int letter) {
        derived(text, letter, NONE, 1, 0, 0, 0);
    }

    private void lettersAndWords() {
        checks.about("letters are 0 .. 3; the lesser word is the shorter, else the one with the lesser letter first");
        CountedDesk desk = new CountedDesk();
        desk.tell(0, "3|00|02|10|000|e");
        String[] rising = {"", "3", "00", "02", "10", "000"};
        for (int k = 0; k < rising.length; k++) {
            long due = rising[k].length() * (1L << 36) + (k == 0 ? 0 : Long.parseLong(rising[k], 4));
            checks.due("word " + k, desk.find(0, k), due);
        }
        desk.tell(1, "3|00");
        checks.due("equal to NONE", desk.equal(1, 2), 0);
        checks.due("the shorter word, though of the greatest letter", desk.witness(-1), 1);
        checks.due("its letter", desk.witness(0), 3);
        desk.tell(1, "03|10");
        checks.due("equal to NONE", desk.equal(1, 2), 0);
        checks.due("the lesser first letter", desk.witness(0), 0);
        checks.due("before the second one", desk.witness(1), 3);
    }

    private void leaves() {
        checks.about("NONE has no word; EMPTY has the empty word; a CLASS the words of one of its letters");
        CountedDesk desk = new CountedDesk();
        desk.tell(1, "e");
        desk.tell(2, "[03]");
        int[] dueOfNone = {0, 0, 0};
        int[] dueOfEmpty = {1, 0, 0};
        int[] dueOfClass = {0, 2, 0};
        for (int n = 0; n < 3; n++) {
            checks.due("NONE, words of " + n, desk.words(0, n), dueOfNone[n]);
            checks.due("EMPTY, words of " + n, desk.words(1, n), dueOfEmpty[n]);
            checks.due("class, words of " + n, desk.words(2, n), dueOfClass[n]);
        }
    }

    private void orOfOr() {
        checks.about("OR: what is OR among its own is replaced by that one's own");
        kept("(01|23)|02", OR, 10, 0, 3, 0);
        kept("02|(01|23)", OR, 10, 0, 3, 0);
        kept("(01|23)|(02|13)", OR, 13, 0, 4, 0);
        kept("(01&23)|02", OR, 11, 0, 2, 0);
        derived("2(01|23)|203", 2, OR, 10, 0, 3, 0);
    }

    private void orOfClasses() {
        checks.about("OR: all that are classes become one, of all their letters");
        kept("0|3", CLASS, 1, 0, 0, 9);
        kept("[012]|[123]", CLASS, 1, 0, 0, 15);
        kept("2|2", CLASS, 1, 0, 0, 4);
        kept("(01|2)|(3|02)", OR, 8, 0, 3, 0);
        same("(01|2)|(3|02)", "01|02|[23]");
        same("e|0|1", "[01]|e");
        derived("31|32", 3, CLASS, 1, 0, 0, 6);
    }

    private void orOfSimilar() {
        checks.about("OR: of similar ones one is left");
        kept("01|01|23", OR, 7, 0, 2, 0);
        kept("(01|23)*|(23|01)*", STAR, 8, 1, 1, 0);
        kept("(01|23)|(23|01)", OR, 7, 0, 2, 0);
        kept("e|e|00", OR, 5, 1, 2, 0);
        notSame("0*|00*", "0*");
    }

    private void orWithNone() {
        checks.about("OR: NONE goes");
        kept("n|01|23", OR, 7, 0, 2, 0);
        kept("01|n|23", OR, 7, 0, 2, 0);
        kept("n|e", EMPTY, 1, 1, 0, 0);
        derivedTo("01|2", 0, "1");
    }

    private void orWithAll() {
        checks.about("OR: with a NOT of NONE it is that");
        keptAsAll("!n|01");
        keptAsAll("01|23|!n");
        keptAsAll("!n|0");
        keptAsAll("e|!n");
        keptAsAll("n|!n");
        derived("0!n|012", 0, NOT, 2, 1, 1, 0);
        notSame("!n", ".*");
        kept(".*|01", OR, 6, 1, 2, 0);
    }

    private void orWithOneLeft() {
        checks.about("OR: with one left it is that one");
        same("n|(01)*", "(01)*");
        same("(01)*|n", "(01)*");
        same("(01)*|(01)*", "(01)*");
        kept("(01&23)|n", AND, 7, 0, 2, 0);
        kept("n|n|3", CLASS, 1, 0, 0, 8);
        kept("!(01)|!(01)", NOT, 4, 1, 1, 0);
    }

    private void orWithNoneLeft() {
        checks.about("OR: with none NONE");
        keptAsNone("n|n");
        derivedToNone("01|23", 1);
    }

    private void andOfAnd() {
        checks.about("AND: what is AND among its own is replaced by that one's own");
        kept("(01&23)&02", AND, 10, 0, 3, 0);
        kept("02&(01&23)", AND, 10, 0, 3, 0);
        kept("(01&23)&(02&13)", AND, 13, 0, 4, 0);
        kept("(01|23)&02", AND, 11, 0, 2, 0);
        derived("2(01&23)&203", 2, AND, 10, 0, 3, 0);
    }

    private void andOfClasses() {
        checks.about("AND: classes become one of the letters that all have");
        kept("[012]&[123]", CLASS, 1, 0, 0, 6);
        kept("[012]&[123]&[13]", CLASS, 1, 0, 0, 2);
        kept("2&2", CLASS, 1, 0, 0, 4);
        kept("(0*&[012])&([123]&1*)", AND, 6, 0, 3, 0);
        same("(0*&[012])&([123]&1*)", "[12]&0*&1*");
        derived("3[01]&3[12]", 3, CLASS, 1, 0, 0, 2);
    }

    private void andOfClassesWithoutCommonLetter() {
        checks.about("AND: NONE, if there is no letter that all have");
        keptAsNone("0&3");
        keptAsNone("[01]&[12]&[02]");
        keptAsNone("0*&0&1");
        keptAsNone("(0*&0)&(1*&1)");
        derivedToNone("30&31&3(0*)", 3);
        keptAsNone("!n&0&1");
    }

    private void andOfSimilar() {
        checks.about("AND: of similar ones one is left");
        kept("01&01&23", AND, 7, 0, 2, 0);
        kept("(01&23)*&(23&01)*", STAR, 8, 1, 1, 0);
        kept("(01&23)&(23&01)", AND, 7, 0, 2, 0);
        kept("e&e", EMPTY, 1, 1, 0, 0);
        kept("e&e&0*", AND, 4, 1, 2, 0);
    }

    private void andWithAll() {
        checks.about("AND: NOT of NONE goes");
        kept("!n&01&23", AND, 7, 0, 2, 0);
        kept("01&23&!n", AND, 7, 0, 2, 0);
        kept("!n&e", EMPTY, 1, 1, 0, 0);
        derivedTo("!(01)&23", 2, "3");
        kept(".*&01", AND, 6, 0, 2, 0);
    }

    private void andWithNone() {
        checks.about("AND: with NONE it is that");
        keptAsNone("n&01");
        keptAsNone("01&23&n");
        keptAsNone("n&!n");
        keptAsNone("n&0");
        keptAsNone("e&n");
        derivedToNone("01&23", 0);
        kept("e&0", AND, 3, 0, 2, 0);
    }

    private void andWithOneLeft() {
        checks.about("AND: with one left it is that one");
        same("!n&(01)*", "(01)*");
        same("(01)*&!n", "(01)*");
        same("(01)*&(01)*", "(01)*");
        kept("(01|23)&!n", OR, 7, 0, 2, 0);
        kept("!n&!n&3", CLASS, 1, 0, 0, 8);
        kept("!(01)&!(01)", NOT, 4, 1, 1, 0);
    }

    private void andWithNoneLeft() {
        checks.about("AND: with none NOT of NONE");
        keptAsAll("!n&!n");
        derived("!(01)&!(12)", 3, NOT, 2, 1, 1, 0);
    }

    private void catWithNone() {
        checks.about("CAT: NONE if one is");
        keptAsNone("n(01)");
        keptAsNone("(01)n");
        keptAsNone("nn");
        keptAsNone("ne");
        keptAsNone("en");
        keptAsNone("!nn");
        keptAsNone("n(!n)");
        derivedToNone("(01)(23)", 2);
    }

    private void catWithEmpty() {
        checks.about("CAT: the other one if one is EMPTY");
        kept("e(01|23)", OR, 7, 0, 2, 0);
        kept("(01|23)e", OR, 7, 0, 2, 0);
        keptAsEmpty("ee");
        same("0e1", "01");
        kept("e3", CLASS, 1, 0, 0, 8);
        keptAsAll("e!n");
        keptAsAll("!ne");
        derivedTo("0(12)", 0, "12");
    }

    private void catOfCat() {
        checks.about("CAT: of CAT of r, s and t: of r and CAT of s, t");
        kept("(01)2", CAT, 5, 0, 2, 0);
        same("(01)2", "0(12)");
        same("((01)(23))((12)(30))", "0(1(2(3(1(2(30))))))");
        same("((0*1)*2)(3(0|e))", "(0*1)*(2(3(0|e)))");
        derivedTo("(0(12))*", 0, "1(2(0(12))*)");
        derivedTo("((01)2)3", 0, "1(23)");
        notSame("(01)2", "0(21)");
    }

    private void notOfNot() {
        checks.about("NOT of NOT of r: r");
        same("!!(01)", "01");
        kept("!!!(01)", NOT, 4, 1, 1, 0);
        keptAsNone("!!n");
        keptAsEmpty("!!e");
        keptAsAll("!!!n");
        derivedTo("!(0!(12))", 0, "12");
        derived("!(0!3)", 0, CLASS, 1, 0, 0, 8);
        kept("!e", NOT, 2, 0, 1, 0);
    }

    private void starOfStar() {
        checks.about("STAR of STAR of r: that");
        kept("(01)**", STAR, 4, 1, 1, 0);
        kept("0***", STAR, 2, 1, 1, 0);
        same("0***", "0*");
        kept("!(0*)*", NOT, 3, 0, 1, 0);
        kept("(!(0*))*", STAR, 4, 1, 1, 0);
        kept("(!n)*", STAR, 3, 1, 1, 0);
    }

    private void starOfNoneOrEmpty() {
        checks.about("STAR of NONE or EMPTY: EMPTY");
        keptAsEmpty("n*");
        keptAsEmpty("e*");
        keptAsEmpty("n**");
        keptAsEmpty("(0&1)*");
        kept("(e|0)*", STAR, 4, 1, 1, 0);
    }

    private void similar() {
        checks.about("similar are terms that are the same but for the order in which OR and AND have their own");
        same("01|23|e", "e|23|01");
        same("0*&1*&2*", "2*&0*&1*");
        same("!((01|2*)&3*)*", "!(3*&(2*|01))*");
        same("3(0*|1*)2(2*&3*)", "3(1*|0*)2(3*&2*)");
        notSame("01", "10");
        notSame("0*|1*", "0*&1*");
        notSame("01|23", "01|32");
        notSame("0*", "!0");
        notSame("0", "1");
        notSame("n", "e");
        notSame("0", "[01]");
        notSame("(0|e)*", "0*");
        notSame("0*|1*|2*", "0*|1*");
        notSame("(0*|1*)&2*", "(0*|2*)&1*");
        notSame("(0*1*)*", "[01]*");
    }

    private void sizes() {
        checks.about("the size: 1 of NONE, EMPTY, a class; of others 1 more than those of all that they have");
        keptAsNone("n");
        keptAsEmpty("e");
        kept(".", CLASS, 1, 0, 0, 15);
        kept("[03]", CLASS, 1, 0, 0, 9);
        kept("01", CAT, 3, 0, 2, 0);
        kept("012", CAT, 5, 0, 2, 0);
        kept("01|23", OR, 7, 0, 2, 0);
        kept("01|23|0*|e", OR, 10, 1, 4, 0);
        kept("0*&1*&2*", AND, 7, 1, 3, 0);
        kept("!(0*)", NOT, 3, 0, 1, 0);
        kept("(01)*", STAR, 4, 1, 1, 0);
    }

    private void nullable() {
        checks.about("nullable is a term that has the empty word");
        String[] with = {"e", "0*", "!0", "!(0*1)", "!n", "e|00", "00|e", "0*1*", "0*&1*", "(0*|1)(2|e)", "!(0&e)", "(00)*"};
        String[] without = {"n", "0", ".", "00", "!e", "!(0*)", "0*1", "10*", "00|11", "0*&1", "1&0*", "!(e|00)", "!(0*1*)"};
        for (String text : with) {
            nullableIs(text, 1);
        }
        for (String text : without) {
            nullableIs(text, 0);
        }
    }

    private void nullableIs(String text, int due) {
        CountedDesk desk = new CountedDesk();
        desk.tell(0, text);
        checks.due("nullable " + text, desk.look(0, 2), due);
        checks.due("the empty word is of " + text, desk.has(0, 0, 0), due);
        checks.due("words of no letters of " + text, desk.words(0, 0), due);
    }

    private void derivativeOfLeaves() {
        checks.about("the derivative of NONE, EMPTY NONE; of a class EMPTY, if it has the letter, else NONE");
        for (int letter = 0; letter < 4; letter++) {
            derivedToNone("n", letter);
            derivedToNone("e", letter);
            derived(".", letter, EMPTY, 1, 1, 0, 0);
        }
        derived("[03]", 0, EMPTY, 1, 1, 0, 0);
        derivedToNone("[03]", 1);
        derivedToNone("[03]", 2);
        derived("[03]", 3, EMPTY, 1, 1, 0, 0);
    }

    private void derivativeOfCat() {
        checks.about("the derivative of CAT of r, s: CAT of that of r, and s; if r is nullable, OR of that and that of s");
        derivedTo("(01)(01)", 0, "1(01)");
        derivedToNone("(12)0", 0);
        derivedTo("(0|e)(02)", 0, "02|2");
        derivedTo("(0|e)(12)", 1, "2");
        derivedTo("(0|e)(12)", 0, "12");
        derivedToNone("(0|e)(12)", 3);
        derivedTo("0*0", 0, "0*0|e");
        derivedTo("0*0*", 0, "0*0*|0*");
        derivedTo("!1(12)", 1, "(!e)(12)|2");
        derivedTo("!0(12)", 1, "!n(12)|2");
    }

    private void derivativeOfOr() {
        checks.about("the derivative of OR: OR of the derivatives");
        derivedTo("01|023|1*", 0, "1|23");
        derivedTo("01|02*|1*", 1, "1*");
        derivedToNone("01|02*|1*", 3);
        derivedTo("(01)*|02", 0, "1(01)*|2");
        derivedTo("01|02", 0, "[12]");
        derivedTo("(e|02)(02|1)|0*", 0, "2(02|1)|2|0*");
    }

    private void derivativeOfAnd() {
        checks.about("the derivative of AND: AND of the derivatives");
        derivedTo("(01)*&02", 0, "1(01)*&2");
        derivedToNone("0*&!(01)&23", 0);
        derivedTo("0*&[01]*&.*", 0, "0*&[01]*&.*");
        derivedToNone("0*&[01]*&.*", 1);
        derivedTo("0[12]&0[23]", 0, "2");
        derivedToNone("01&02", 0);
        derivedTo("!1&0*", 0, "0*");
    }

    private void derivativeOfNot() {
        checks.about("the derivative of NOT: NOT of the derivative");
        derivedTo("!(01)", 0, "!1");
        derived("!(01)", 1, NOT, 2, 1, 1, 0);
        derived("!n", 2, NOT, 2, 1, 1, 0);
        derived("!e", 2, NOT, 2, 1, 1, 0);
        derived("!0", 0, NOT, 2, 0, 1, 0);
        derivedToNone("!(0!n)", 0);
    }

    private void derivativeOfStar() {
        checks.about("the derivative of STAR of r: CAT of the derivative of r, and STAR of r");
        derivedTo("0*", 0, "0*");
        derivedToNone("0*", 1);
        derivedTo("(01)*", 0, "1(01)*");
        derivedTo("(01|02*)*", 0, "(1|2*)(01|02*)*");
        derivedTo("(0*1)*", 0, "0*1(0*1)*");
        derivedTo("(0*1)*", 1, "(0*1)*");
        derivedTo("(!n)*", 3, "!n(!n)*");
    }

    private void statesAre(String text, int due) {
        CountedDesk desk = new CountedDesk();
        desk.tell(0, text);
        checks.due("states of " + text, desk.states(0), due);
    }

    private void statesOnce() {
        checks.about("the states are itself and all derivatives of states, similar ones once");
        statesAre("n", 1);
        statesAre("e", 2);
        statesAre(".", 3);
        statesAre("!n", 1);
        statesAre("!e", 2);
        statesAre(".*", 1);
        statesAre("0*", 2);
        statesAre(".*.*", 2);
        statesAre("01|10", 5);
        statesAre("0(01|23)|1(23|01)", 6);
        statesAre("0([01]*&[12]*)|1([12]*&[01]*)", 3);
        statesAre("(00)*", 3);
    }

    private static String cycle(int length) {
        return "(" + ".".repeat(length) + ")*";
    }

    private void tooManyStates() {
        checks.about("too large: when there are more than 150 states");
        String words = cycle(2) + "&" + cycle(3) + "&" + cycle(25);
        statesAre(words, 150);
        statesAre(".(" + words + ")", -1);
        statesAre("!(" + words + ")", 150);
        String others = "(" + cycle(4) + "&" + cycle(37) + ")";
        statesAre(others, 148);
        statesAre("." + others, 149);
        statesAre(".." + others, 150);
        statesAre("..." + others, -1);
    }

    private void tooLargeStates() {
        checks.about("too large: when one of the states has a size above 300");
        String letters = "2".repeat(33);
        statesAre("0*0*0*1*0*" + letters, 38);
        statesAre("0*0*0*1*1*0*" + letters.substring(1), -1);
        statesAre("3(0*0*0*1*0*" + letters + ")", 39);
        statesAre("333(0*0*0*1*1*0*" + letters.substring(1) + ")", -1);
    }

    private void onlyStatesAreTooLarge() {
        checks.about("too large: when one of the states, not what they are made of, has a size above 300");
        String stars = "0*".repeat(32) + "1*";
        CountedDesk desk = new CountedDesk();
        desk.tell(0, stars);
        checks.due("size", desk.look(0, 1), 98);
        checks.due("a derivative is too large", desk.states(0), -1);
        statesAre(stars + "&e", 2);
        derivedToNone(stars + "&e", 0);
        checks.due("AND keeps the size", new CountedDesk().tell(0, stars + "&e"), 100);
    }

    private void slots() {
        checks.about("terms lie in slots 0 .. 15, NONE at first");
        CountedDesk desk = new CountedDesk();
        for (int slot = 0; slot < 16; slot++) {
            checks.due("sort in slot " + slot, desk.look(slot, 0), NONE);
        }
        for (int slot = 0; slot < 16; slot++) {
            desk.letters(slot, slot + 1);
        }
        for (int slot = 0; slot < 16; slot++) {
            checks.due("sort in slot " + slot, desk.look(slot, 0), slot == 15 ? EMPTY : CLASS);
            checks.due("letters in slot " + slot, desk.look(slot, 4), slot == 15 ? 0 : slot + 1);
        }
        checks.isThrown("slot -1", IndexOutOfBoundsException.class, () -> desk.look(-1, 0));
        checks.isThrown("slot 16", IndexOutOfBoundsException.class, () -> desk.look(16, 0));
    }
}
