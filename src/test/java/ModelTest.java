import java.util.Random;

/** Seeded runs of calls on the program and on the model: every answer is the same. */
public final class ModelTest {
    private static final String[] ASKING = {
        "similar", "has", "has", "states", "languages", "equal", "equal", "witness", "witness", "words", "ends", "find", "look"
    };
    private final Random random;
    private final Twin twin = new Twin();
    private final int slots;
    private final int letters;
    private final int calls;
    // How often AND and NOT come: with many of them most terms have no words, or all.
    private final int contrary;

    private ModelTest(long seed) {
        random = new Random(seed);
        slots = 2 + random.nextInt(15);
        letters = 1 + random.nextInt(15);
        calls = seed % 25 < 2 ? CountedDesk.PROMISED_CALLS : 100;
        contrary = random.nextInt(4);
    }

    public static void main(String[] args) {
        int runs = args.length > 0 ? Integer.parseInt(args[0]) : 1500;
        int from = args.length > 1 ? Integer.parseInt(args[1]) : 0;
        Checks checks = new Checks();
        for (int seed = from; seed < from + runs && checks.wrong() < 5; seed++) {
            new ModelTest(seed).run(checks, seed);
        }
        checks.end();
    }

    private void run(Checks checks, int seed) {
        if (seed % 2 == 0) {
            mix();
        } else {
            buildAndAsk();
        }
        checks.isTrue("seed " + seed + ":\n" + twin.story(), !twin.failed());
    }

    /** Calls of all kinds as they come. */
    private void mix() {
        for (int slot = 0; slot < slots; slot++) {
            twin.ask("letters", slot, 1 + random.nextInt(15) & letters);
        }
        while (twin.asked() < calls) {
            String name = pickName();
            long[] x = pickArguments(name);
            for (int again = 0; again < 6 && twin.model().wouldLoseMuch(name, x); again++) {
                x = pickArguments(name);
            }
            twin.ask(name, x);
        }
    }

    /** Larger terms, built from their parts, and then all questions about them. */
    private void buildAndAsk() {
        while (twin.asked() < calls) {
            int kept = 12 + random.nextInt(4);
            build(0, 2 + random.nextInt(60));
            twin.ask("equal", 0, kept);
            askWitness();
            for (String name : ASKING) {
                long[] x = pickArguments(name);
                x[0] = name.equals("witness") ? x[0] : random.nextInt(3) == 0 ? kept : 0;
                twin.ask(name, x);
            }
            twin.ask("join", kept, 0, 0, 1);
        }
    }

    private void askWitness() {
        long length = Long.parseLong(twin.ask("witness", -1));
        for (long i = 0; i <= length; i++) {
            twin.ask("witness", i);
        }
    }

    private void build(int slot, int size) {
        if (size <= 1 || slot > 10) {
            twin.ask("letters", slot, random.nextInt(12) == 0 ? 16 : Math.max(1, 1 + random.nextInt(15) & letters));
        } else if (size == 2 || random.nextInt(10) < 3) {
            build(slot, size - 1);
            twin.ask("turn", slot, slot, random.nextInt(6) < contrary ? 0 : 1);
        } else {
            int less = 1 + random.nextInt((size - 1) / 2);
            build(slot, size - 1 - less);
            build(slot + 1, less);
            int how = random.nextInt(8) < contrary ? 2 : random.nextInt(2);
            boolean turned = random.nextBoolean();
            twin.ask("join", slot, turned ? slot + 1 : slot, turned ? slot : slot + 1, how);
        }
    }

    private String pickName() {
        int dice = random.nextInt(100);
        if (dice < 4) {
            return "letters";
        }
        if (dice < 38) {
            return "join";
        }
        if (dice < 57) {
            return "turn";
        }
        return dice < 64 ? "derive" : ASKING[random.nextInt(ASKING.length)];
    }

    private long[] pickArguments(String name) {
        switch (name) {
            case "letters":
                int mask = random.nextInt(8) == 0 ? 16 : random.nextInt(10) == 0 ? 0 : random.nextInt(16) & letters;
                return new long[] {slot(), wrongAtTimes(mask, 17)};
            case "join":
                int how = random.nextInt(6) < contrary ? 2 : random.nextInt(2);
                return new long[] {slot(), slot(), slot(), wrongAtTimes(how, 3)};
            case "turn":
                return new long[] {slot(), slot(), wrongAtTimes(random.nextInt(6) < contrary ? 0 : 1, 2)};
            case "derive":
                return new long[] {slot(), slot(), wrongAtTimes(random.nextInt(4), 4)};
            case "similar":
            case "equal":
                return new long[] {slot(), slot()};
            case "has":
                int length = random.nextInt(6) == 0 ? random.nextInt(17) : random.nextInt(6);
                return new long[] {slot(), random.nextInt(), wrongAtTimes(length, 17)};
            case "witness":
                return new long[] {random.nextInt(3) == 0 ? -1 : random.nextInt(9) - 2};
            case "words":
                return new long[] {slot(), wrongAtTimes(random.nextInt(17), 17)};
            case "find":
                return new long[] {slot(), index()};
            case "look":
                return new long[] {slot(), random.nextInt(8) - 1};
            default:
                return new long[] {slot()};
        }
    }

    private long index() {
        switch (random.nextInt(6)) {
            case 0:
                return -1 - random.nextInt(3);
            case 1:
                return random.nextLong() >> random.nextInt(40);
            case 2:
                return random.nextLong() >>> 31;
            case 3:
                return random.nextInt(100_000);
            default:
                return random.nextInt(12);
        }
    }

    private int slot() {
        int dice = random.nextInt(300);
        return dice == 0 ? -1 : dice == 1 ? 16 : dice == 2 ? random.nextInt() : random.nextInt(slots);
    }

    private int wrongAtTimes(int right, int firstWrong) {
        int dice = random.nextInt(150);
        return dice == 0 ? -1 : dice == 1 ? firstWrong : dice == 2 ? random.nextInt() : right;
    }
}
