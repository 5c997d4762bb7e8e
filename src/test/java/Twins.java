import java.util.LinkedHashMap;
import java.util.Map;
import java.util.function.Supplier;

/**
 * The check that a call changes nothing at all: of two containers with the same past one makes the
 * call, and from then on both answer alike, beyond a crash, a mount and a damage too.
 */
final class Twins {
    private static final Call NO_CALL = new Call("no call", x -> 0);

    private Twins() {
    }

    /** The conditions that a container can be in, each with a way to make one. */
    static Map<String, Supplier<CowContainer>> conditions() {
        Map<String, Supplier<CowContainer>> answer = whenUp();
        answer.putAll(whenDown());
        return answer;
    }

    static Map<String, Supplier<CowContainer>> whenUp() {
        Map<String, Supplier<CowContainer>> answer = new LinkedHashMap<>();
        answer.put("new", () -> new CowContainer(4));
        answer.put("UP without a checkpoint", () -> synced(0));
        answer.put("UP with one checkpoint", () -> synced(1));
        answer.put("UP with two checkpoints", () -> synced(2));
        answer.put("UP and full", () -> full(0));
        answer.put("UP and full with checkpoints", () -> full(2));
        answer.put("mounted again", () -> mounted(synced(2)));
        return answer;
    }

    static Map<String, Supplier<CowContainer>> whenDown() {
        Map<String, Supplier<CowContainer>> answer = new LinkedHashMap<>();
        answer.put("DOWN without a checkpoint", () -> crashed(synced(0)));
        answer.put("DOWN with one checkpoint", () -> crashed(synced(1)));
        answer.put("DOWN with two checkpoints", () -> crashed(synced(2)));
        answer.put("DOWN with full checkpoints", () -> crashed(full(2)));
        answer.put("DOWN by a torn sync", () -> torn(synced(2)));
        return answer;
    }

    /** The state and its checkpoints differ from each other in live trees and in snapshots. */
    static CowContainer synced(int times) {
        CowContainer x = Due.filled(24);
        for (int i = 0; i < times; i++) {
            x.sync(0);
            x.write(i, 3, 3, 40 + i);
            x.snapshot(i, i == 0 ? 2 : 1);
            x.write(i, 3, 3, 50 + i);
        }
        return x;
    }

    /** Four blocks of four, in the live trees of both volumes and in two snapshots. */
    static CowContainer full(int checkpoints) {
        CowContainer x = new CowContainer(4);
        x.write(0, 0, 0, 1);
        x.write(1, 3, 3, 2);
        x.snapshot(0, 1);
        x.write(0, 0, 0, 3);
        x.snapshot(1, 2);
        x.write(1, 3, 3, 4);
        for (int i = 0; i < checkpoints; i++) {
            x.sync(0);
        }
        return x;
    }

    static CowContainer crashed(CowContainer x) {
        x.crash();
        return x;
    }

    private static CowContainer torn(CowContainer x) {
        x.sync(1);
        return x;
    }

    private static CowContainer mounted(CowContainer x) {
        x.crash();
        x.mount();
        return x;
    }

    static void changesNothing(String when, Supplier<CowContainer> past, Call call, long want) {
        String told = call.text() + " when " + when;
        Due.same(told, call.on(past.get()), want);
        Due.alike(told, future(past, NO_CALL), future(past, call));
    }

    /** Looking ahead uses a container up, so each way to look has one of its own. */
    private static String future(Supplier<CowContainer> past, Call call) {
        return fallsBack(after(past, call)) + nextNumber(after(past, call)) + room(after(past, call));
    }

    private static CowContainer after(Supplier<CowContainer> past, Call call) {
        CowContainer x = past.get();
        call.on(x);
        return x;
    }

    /** The state, then that of the newest checkpoint, then that of the previous one. */
    private static String fallsBack(CowContainer x) {
        String state = Due.look(x);
        String newest = x.crash() + " " + x.mount() + " " + Due.look(x);
        String previous = x.crash() + " " + x.damage(0) + " " + x.mount() + " " + Due.look(x);
        return state + "\n  " + newest + "\n  " + previous + "\n  " + x.crash() + " " + x.damage(0);
    }

    private static String nextNumber(CowContainer x) {
        return "\n  " + x.sync(0) + " " + x.mount() + " " + x.sync(0) + " " + x.info(1) + " " + x.info(2);
    }

    /** What each write answers tells which blocks are held elsewhere too. */
    private static String room(CowContainer x) {
        StringBuilder seen = new StringBuilder("\n  ").append(x.mount());
        for (int i = 0; i < 32; i++) {
            seen.append(' ').append(x.write(i / 16, i / 4 % 4, i % 4, 1000 + i));
        }
        return seen.toString();
    }
}
