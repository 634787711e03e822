import com.sun.management.ThreadMXBean;
import java.lang.management.ManagementFactory;

/**
 * All calls of a run live in one room, so no call may make objects: the dearest calls, 512 of them on one object,
 * must take next to nothing from the heap, and a new object must stay small.
 */
public final class RoomTest {
    private static final long MOST_BYTES_OF_CALLS = 4096;
    private static final long MOST_BYTES_OF_OBJECT = 8192;

    private static final ThreadMXBean THREADS = (ThreadMXBean) ManagementFactory.getThreadMXBean();

    private RoomTest() {
    }

    public static void main(String[] args) {
        PuzzlePress press = new PuzzlePress();
        useAll(press);
        long before = taken();
        PuzzlePress another = new PuzzlePress();
        long ofObject = taken() - before;
        before = taken();
        useAll(another);
        long ofCalls = taken() - before;
        System.out.println("a new object takes " + ofObject + " bytes, its calls take " + ofCalls);
        if (ofObject > MOST_BYTES_OF_OBJECT || ofCalls > MOST_BYTES_OF_CALLS) {
            System.out.println("that is too much");
            System.exit(1);
        }
    }

    private static long taken() {
        return THREADS.getCurrentThreadAllocatedBytes();
    }

    /** Some 512 calls. */
    private static void useAll(PuzzlePress press) {
        for (int turn = 0; turn < 24; turn++) {
            int cells = press.open(turn % 3);
            if (turn % 3 == 0) {
                press.clue(0, 1);
                press.clue(7, 1);
            } else {
                press.group(1, 0);
                press.group(1, 1);
            }
            if (turn % 3 == 1) {
                press.rule(3, 1, 2);
            }
            press.fillings();
            press.value(cells - 1);
            press.full();
            press.thin(1 + turn / 3 % 3);
            press.grade();
            press.give(0, 1);
            press.given(0);
            press.reason(1);
            press.fresh();
            press.reason(2);
            press.step();
            press.step();
            press.candidates(3);
            press.kind();
        }
    }
}
