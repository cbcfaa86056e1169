import com.sun.management.ThreadMXBean;
import java.lang.management.ManagementFactory;
import java.util.LinkedHashMap;
import java.util.Map;

/** An object answers 512 calls, and no call takes room: all there is of it is made when it is. */
public final class RoomTest {
    private static final ThreadMXBean MEMORY = (ThreadMXBean) ManagementFactory.getThreadMXBean();
    private static final int CALLS = 512;
    // Of 7.3 million fields and elements in one run, those of one object.
    private static final int MOST_BYTES = 4 * 60000;

    public static void main(String[] args) {
        answersAllCalls();
        takesNoRoom();
        takesLittleRoom();
        Kit.tell("how long and in what room an object is used");
    }

    /** The most that can be: eight segments, forty versions, thirty seen, a full tape. */
    private static StampMap crowded() {
        StampMap x = Kit.swept(Kit.EIGHT + "weighs number;slots 1;", 1);
        for (int i = 0; i < 30; i++) {
            x.seen(i % 8, false);
        }
        for (int i = 1; i < 40; i++) {
            if (i % 2 == 1) {
                x.cut(0);
            } else {
                x.raise(0);
            }
        }
        x.image(0);
        Kit.put(x, Kit.times(" ", 1600));
        return x;
    }

    private static Map<String, Kit.Call> lookingCalls() {
        Map<String, Kit.Call> calls = new LinkedHashMap<>();
        calls.put("area(3)", x -> x.area(3));
        calls.put("largest()", StampMap::largest);
        calls.put("hidden(2)", x -> x.hidden(2));
        calls.put("law(1)", x -> x.law(1));
        calls.put("trapezes()", StampMap::trapezes);
        calls.put("sight(3, 0)", x -> x.sight(3, 0));
        calls.put("highest()", StampMap::highest);
        calls.put("shared(1, 40)", x -> x.shared(1, 40));
        calls.put("busiest()", StampMap::busiest);
        calls.put("version(40, 3)", x -> x.version(40, 3));
        calls.put("node(9, 5)", x -> x.node(9, 5));
        calls.put("read(9, 0, 40)", x -> x.read(9, 0, 40));
        calls.put("shape(40)", x -> x.shape(40));
        calls.put("row(40)", x -> x.row(40));
        calls.put("depth(30, 0)", x -> x.depth(30, 0));
        calls.put("gap(30, 9, 0)", x -> x.gap(30, 9, 0));
        calls.put("same(3, 3, 4, 4)", x -> x.same(3, 3, 4, 4));
        calls.put("fits(9, 0)", x -> x.fits(9, 0));
        calls.put("sure(9, 1, 0)", x -> x.sure(9, 1, 0));
        calls.put("ask(9, 1, 0)", x -> x.ask(9, 1, 0));
        calls.put("image(1)", x -> x.image(1));
        calls.put("undo() and redo()", x -> (x.undo() ? 1 : 0) + (x.redo() ? 1 : 0));
        calls.put("feed", x -> x.feed(1, 2, 3, 4, 5));
        calls.put("end(1600)", x -> x.end(1600));
        return calls;
    }

    private static void answersAllCalls() {
        Kit.says("An object is used for at most 512 calls after it has been made");
        lookingCalls().forEach((name, call) -> {
            StampMap x = crowded();
            int first = call.of(x);
            for (int i = 200; i < CALLS - 1; i++) {
                call.of(x);
            }
            Kit.due(name + " as the last call", call.of(x), first);
        });
        StampMap x = new StampMap();
        for (int i = 1; i < CALLS; i++) {
            Kit.due("sweep() as call " + i, x.sweep(), -1);
        }
        Kit.due("events() as the last call", x.events(), 0);
        x = Kit.told(Kit.THREE);
        for (int i = 10; i < CALLS; i++) {
            if (i % 2 == 0) {
                Kit.due("sweep() as call " + i, x.sweep(), 1);
            } else {
                Kit.due("undo() as call " + i, x.undo(), true);
            }
        }
        // A map in every call that can have one.
        x = new StampMap();
        for (int i = 0; i + 4 <= CALLS; i += 4) {
            x.feed(0x736c6f74, 0x7320353b, 0, 0, 0);
            x.end(8);
            Kit.due("map()", x.map(), 0);
            Kit.due("about(5)", x.about(5), 5);
        }
    }

    private static void takesNoRoom() {
        Kit.says("the speed of each call");
        lookingCalls().forEach((name, call) -> {
            StampMap x = crowded();
            call.of(x);
            long ahead = MEMORY.getCurrentThreadAllocatedBytes();
            for (int i = 0; i < 200; i++) {
                call.of(x);
            }
            long behind = MEMORY.getCurrentThreadAllocatedBytes();
            Kit.due("bytes that " + name + " took each time", (behind - ahead) / 200, 0);
        });
        StampMap x = new StampMap();
        long ahead = MEMORY.getCurrentThreadAllocatedBytes();
        for (int i = 0; i < 100; i++) {
            x.feed(0x73656720, 0x61206174, 0x20302031, 0x3020746f, 0x20323020);
            x.feed(0x31303b00, 0, 0, 0, 0);
            x.end(23);
            x.map();
            x.sweep();
        }
        long behind = MEMORY.getCurrentThreadAllocatedBytes();
        Kit.due("bytes that a map took each time", (behind - ahead) / 100, 0);
    }

    private static void takesLittleRoom() {
        Kit.says("How the state is held inside the object is free");
        new StampMap();
        long ahead = MEMORY.getCurrentThreadAllocatedBytes();
        StampMap x = new StampMap();
        long behind = MEMORY.getCurrentThreadAllocatedBytes();
        Kit.due("an object of " + (behind - ahead) + " bytes is small", behind - ahead < MOST_BYTES, true);
        Kit.due("about(0)", x.about(0), 0);
    }
}
