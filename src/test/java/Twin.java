import java.util.Arrays;

/** An object of the program and the model, given the same calls. */
final class Twin {
    private final DerivativeDesk desk = new DerivativeDesk();
    private final Model model = new Model();
    private final StringBuilder story = new StringBuilder();
    private int asked = 0;
    private boolean failed = false;

    /** What the program answers; after a first wrong answer, or 512 calls, the calls only count. */
    String ask(String name, long... x) {
        asked++;
        if (failed || asked > CountedDesk.PROMISED_CALLS) {
            return "-1";
        }
        String want = model.answer(name, x);
        String got = answerOf(name, x);
        story.append(name).append(Arrays.toString(x)).append(" answered ").append(got);
        story.append(", due is ").append(want).append('\n');
        failed = !got.equals(want);
        return got;
    }

    int asked() {
        return asked;
    }

    boolean failed() {
        return failed;
    }

    String story() {
        return story.toString();
    }

    DerivativeDesk desk() {
        return desk;
    }

    Model model() {
        return model;
    }

    private String answerOf(String name, long[] x) {
        try {
            return "" + called(name, x);
        } catch (RuntimeException e) {
            return "!" + e.getClass().getSimpleName();
        }
    }

    private long called(String name, long[] x) {
        int a = (int) x[0];
        int b = x.length > 1 ? (int) x[1] : 0;
        int c = x.length > 2 ? (int) x[2] : 0;
        switch (name) {
            case "letters":
                return desk.letters(a, b);
            case "join":
                return desk.join(a, b, c, (int) x[3]);
            case "turn":
                return desk.turn(a, b, c);
            case "derive":
                return desk.derive(a, b, c);
            case "similar":
                return desk.similar(a, b) ? 1 : 0;
            case "has":
                return desk.has(a, b, c) ? 1 : 0;
            case "states":
                return desk.states(a);
            case "languages":
                return desk.languages(a);
            case "equal":
                return desk.equal(a, b);
            case "witness":
                return desk.witness(a);
            case "words":
                return desk.words(a, b);
            case "ends":
                return desk.ends(a);
            case "find":
                return desk.find(a, x[1]);
            default:
                return desk.look(a, b);
        }
    }
}
