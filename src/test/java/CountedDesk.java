/**
 * A desk whose calls are counted, as an object is promised for 512 of them alone, and that can be
 * given a term as a text.
 */
final class CountedDesk {
    static final int PROMISED_CALLS = 512;

    static final int CAT = 0;
    static final int OR = 1;
    static final int AND = 2;
    static final int NOT = 0;
    static final int STAR = 1;
    static final int EMPTY = 16;

    private final DerivativeDesk desk = new DerivativeDesk();
    private int calls = 0;
    private String text = "";
    private int at = 0;

    int calls() {
        return calls;
    }

    int letters(int s, int letters) {
        return counted().letters(s, letters);
    }

    int join(int s, int a, int b, int how) {
        return counted().join(s, a, b, how);
    }

    int turn(int s, int a, int how) {
        return counted().turn(s, a, how);
    }

    int derive(int s, int a, int letter) {
        return counted().derive(s, a, letter);
    }

    int similar(int a, int b) {
        return counted().similar(a, b) ? 1 : 0;
    }

    int has(int a, int w, int n) {
        return counted().has(a, w, n) ? 1 : 0;
    }

    /** has() of a word told by its letters. */
    int has(int a, String word) {
        int w = 0;
        for (char letter : word.toCharArray()) {
            w = w << 2 | letter - '0';
        }
        return has(a, w, word.length());
    }

    int states(int a) {
        return counted().states(a);
    }

    int languages(int a) {
        return counted().languages(a);
    }

    int equal(int a, int b) {
        return counted().equal(a, b);
    }

    int witness(int i) {
        return counted().witness(i);
    }

    long words(int a, int n) {
        return counted().words(a, n);
    }

    int ends(int a) {
        return counted().ends(a);
    }

    long find(int a, long k) {
        return counted().find(a, k);
    }

    int look(int a, int what) {
        return counted().look(a, what);
    }

    private DerivativeDesk counted() {
        calls++;
        if (calls > PROMISED_CALLS) {
            throw new IllegalStateException("the test makes more calls than are promised");
        }
        return desk;
    }

    /**
     * Slot becomes the term of a text: 0 .. 3 a letter, [12] a class, . all letters, n NONE, e EMPTY,
     * one behind the other CAT, then & AND, then | OR; ! before one NOT, * behind one STAR. Parts lie
     * in slots from 15 downwards for a while. Gives what the last call answered: the size.
     */
    int tell(int slot, String told) {
        text = told;
        at = 0;
        int size = tellOr(slot, 15);
        if (at != text.length()) {
            throw new IllegalStateException("no term: " + told);
        }
        return size;
    }

    private int kept(int size) {
        if (size < 0) {
            throw new IllegalStateException("refused as too large a term: " + text);
        }
        return size;
    }

    private char next() {
        return at < text.length() ? text.charAt(at) : ')';
    }

    private int tellOr(int slot, int spare) {
        int size = tellAnd(slot, spare);
        while (next() == '|') {
            at++;
            tellAnd(spare, spare - 1);
            size = kept(join(slot, slot, spare, OR));
        }
        return size;
    }

    private int tellAnd(int slot, int spare) {
        int size = tellCat(slot, spare);
        while (next() == '&') {
            at++;
            tellCat(spare, spare - 1);
            size = kept(join(slot, slot, spare, AND));
        }
        return size;
    }

    private int tellCat(int slot, int spare) {
        int size = tellTurned(slot, spare);
        while (next() != '|' && next() != '&' && next() != ')') {
            tellTurned(spare, spare - 1);
            size = kept(join(slot, slot, spare, CAT));
        }
        return size;
    }

    private int tellTurned(int slot, int spare) {
        if (next() == '!') {
            at++;
            tellTurned(slot, spare);
            return kept(turn(slot, slot, NOT));
        }
        int size = tellOne(slot, spare);
        while (next() == '*') {
            at++;
            size = kept(turn(slot, slot, STAR));
        }
        return size;
    }

    private int tellOne(int slot, int spare) {
        char first = next();
        at++;
        switch (first) {
            case '(':
                int size = tellOr(slot, spare);
                at++;
                return size;
            case '[':
                int mask = 0;
                while (next() != ']') {
                    mask |= 1 << next() - '0';
                    at++;
                }
                at++;
                return letters(slot, mask);
            case '.':
                return letters(slot, 15);
            case 'n':
                return letters(slot, 0);
            case 'e':
                return letters(slot, EMPTY);
            case '0':
            case '1':
            case '2':
            case '3':
                return letters(slot, 1 << first - '0');
            default:
                throw new IllegalStateException("no term: " + text);
        }
    }
}
