import java.lang.reflect.Array;
import java.lang.reflect.Field;
import java.lang.reflect.Modifier;
import java.util.ArrayDeque;
import java.util.Collections;
import java.util.IdentityHashMap;
import java.util.Random;
import java.util.Set;

/**
 * What an object keeps stays far below the room for one run (600,000 objects and arrays, 7.3 million
 * fields and elements), also with the largest terms. Rows that grow at least double each time, so
 * that what was made in all is less than twice what is kept at last.
 */
public final class RoomTest {
    private static final int MANY_ELEMENTS = 300_000;
    private static final int MANY_OBJECTS = 1_000;

    private long elements = 0;
    private long objects = 0;

    private static final Checks CHECKS = new Checks();

    public static void main(String[] args) throws IllegalAccessException {
        int runs = args.length > 0 ? Integer.parseInt(args[0]) : 40;
        DerivativeDesk fresh = new DerivativeDesk();
        keepsFewerThan(50_000, fresh, "a new object");
        for (int seed = 0; seed < runs; seed++) {
            DerivativeDesk desk = new DerivativeDesk();
            useAtRandom(desk, new Random(seed));
            keepsFewerThan(MANY_ELEMENTS, desk, "random run " + seed);
        }
        for (int places = 0; places < 9; places++) {
            Twin twin = new Twin();
            for (int i = 0; i < 3; i++) {
                exploreWrapped(twin, (places + 3 * i) % 8 + 1);
            }
            CHECKS.isTrue(twin.story(), !twin.failed());
            keepsFewerThan(MANY_ELEMENTS, twin.desk(), "wrapped " + places);
        }
        Twin twin = new Twin();
        exploreStars(twin);
        CHECKS.isTrue(twin.story(), !twin.failed());
        keepsFewerThan(MANY_ELEMENTS, twin.desk(), "stars");
        CHECKS.end();
    }

    private static void keepsFewerThan(int limit, DerivativeDesk desk, String who) throws IllegalAccessException {
        RoomTest room = new RoomTest();
        room.count(desk);
        CHECKS.isTrue(who + " keeps " + room.elements + " elements", room.elements < limit);
        CHECKS.isTrue(who + " keeps " + room.objects + " objects", room.objects < MANY_OBJECTS);
    }

    /**
     * All words of 0, 1 with a 0 some places from the end, behind turns of OR and AND up to the
     * largest size: nearly every part of each of its many states is new.
     */
    private static void exploreWrapped(Twin twin, int places) {
        twin.ask("letters", 1, 3);
        twin.ask("turn", 2, 1, 1);
        twin.ask("letters", 0, 1);
        for (int i = 0; i < places; i++) {
            twin.ask("join", 0, 0, 1, 0);
        }
        twin.ask("join", 0, 2, 0, 0);
        int wraps = 0;
        String size = "";
        while (!size.equals("-1")) {
            twin.ask("letters", 3, wraps % 2 == 0 ? 7 : 15);
            twin.ask("turn", 3, 3, 1);
            twin.ask("letters", 4, wraps % 2 == 0 ? 4 | wraps % 4 * 4 : 16);
            twin.ask("join", 3, 3, 4, 0);
            size = twin.ask("join", 0, 0, 3, wraps % 2 == 0 ? 1 : 2);
            wraps++;
        }
        CHECKS.isTrue("wrapped " + places + " often: " + wraps, wraps > 20);
        twin.ask("states", 0);
        for (int slot = 5; slot < 10; slot++) {
            twin.ask("derive", slot, slot == 5 ? 0 : slot - 1, slot % 3);
            twin.ask("turn", 10, slot, 0);
            twin.ask("similar", 0, slot);
            twin.ask("equal", 0, 10);
            twin.ask("witness", -1);
            twin.ask("languages", 10);
        }
    }

    /** Chains and nests of stars of every size that goes: their derivatives are large. */
    private static void exploreStars(Twin twin) {
        twin.ask("letters", 0, 16);
        twin.ask("letters", 1, 1);
        for (int i = 0; i < 33; i++) {
            twin.ask("letters", 2, 1 << i % 4);
            twin.ask("turn", 3, 2, 1);
            twin.ask("join", 0, 3, 0, 0);
            twin.ask("states", 0);
            twin.ask("derive", 4, 0, i % 4);
            twin.ask("turn", 1, 1, 1);
            twin.ask("join", 1, 1, 2, 0);
            twin.ask("states", 1);
            twin.ask("derive", 5, 1, i % 3);
        }
    }

    private static void useAtRandom(DerivativeDesk desk, Random random) {
        int contrary = random.nextInt(5);
        for (int call = 0; call < CountedDesk.PROMISED_CALLS - 1; call++) {
            int s = random.nextInt(16);
            int a = random.nextInt(16);
            int b = random.nextInt(16);
            int dice = random.nextInt(20);
            if (call < 16) {
                desk.letters(call, 1 << random.nextInt(4));
            } else if (dice == 0) {
                call++;
                if (desk.look(s, 1) < 3) {
                    desk.letters(s, 1 << random.nextInt(4));
                }
            } else if (dice < 7) {
                desk.join(s, a, b, random.nextInt(8) < contrary ? 2 : random.nextInt(2));
            } else if (dice < 10) {
                desk.turn(s, a, random.nextInt(8) < contrary ? 0 : 1);
            } else if (dice < 12) {
                desk.derive(s, a, random.nextInt(4));
            } else if (dice < 16) {
                desk.equal(a, b);
            } else {
                desk.states(a);
            }
        }
    }

    private void count(Object root) throws IllegalAccessException {
        Set<Object> seen = Collections.newSetFromMap(new IdentityHashMap<>());
        ArrayDeque<Object> todo = new ArrayDeque<>();
        seen.add(root);
        todo.add(root);
        while (!todo.isEmpty()) {
            Object object = todo.remove();
            objects++;
            if (object.getClass().isArray()) {
                elements += Array.getLength(object);
                for (int i = 0; object instanceof Object[] && i < Array.getLength(object); i++) {
                    reach(Array.get(object, i), seen, todo);
                }
                continue;
            }
            for (Field field : object.getClass().getDeclaredFields()) {
                if (!Modifier.isStatic(field.getModifiers())) {
                    elements++;
                    field.setAccessible(true);
                    if (!field.getType().isPrimitive()) {
                        reach(field.get(object), seen, todo);
                    }
                }
            }
        }
    }

    private static void reach(Object object, Set<Object> seen, ArrayDeque<Object> todo) {
        if (object != null && seen.add(object)) {
            todo.add(object);
        }
    }
}
