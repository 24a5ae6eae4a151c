import com.sun.management.ThreadMXBean;
import java.lang.management.ManagementFactory;

/** What an object and its dearest calls make stays far below the room of a run: nothing is made but exceptions. */
public final class RoomTest {
    private static final ThreadMXBean THREADS = (ThreadMXBean) ManagementFactory.getThreadMXBean();
    private static final int CALLS = 512;
    /** For a program that is loaded while it is measured, a call may seem to make some bytes. */
    private static final long BYTES_OF_CALLS = 64 * 1024, BYTES_OF_OBJECT = 256 * 1024;
    private static final int NUMBER = KernelGym.NUMBER;

    public static void main(String[] args) {
        KernelGym gym = busy();
        long before = made();
        KernelGym other = new KernelGym();
        Check.holds("room of an object", made() - before < BYTES_OF_OBJECT);
        Check.due("another object", 0, other.lines());
        cheap("error", () -> gym.error());
        cheap("assemble", () -> gym.assemble());
        cheap("submit", () -> gym.submit());
        cheap("sumAnew", () -> gym.sumAnew(gym.steps()));
        cheap("sum", () -> gym.sum());
        cheap("steps back and forth", () -> gym.back(200) + gym.step(100));
        cheap("crash and start", () -> gym.crash() + gym.start() + gym.step(50));
        cheap("changedAt", () -> gym.changedAt(3));
        cheap("files", () -> gym.files() + gym.freeBlocks() + (gym.isWhole() ? 1 : 0));
        cheap("lines", () -> gym.clear() + gym.section(0));
        Check.end();
    }

    private static long made() {
        return THREADS.getThreadAllocatedBytes(Thread.currentThread().getId());
    }

    private static void cheap(String what, Check.Call call) {
        long before = made();
        for (int i = 0; i < CALLS; i++) {
            call.make();
        }
        long made = made() - before;
        Check.holds("room of " + what + ", " + made + " bytes", made < BYTES_OF_CALLS);
    }

    private static KernelGym busy() {
        KernelGym gym = new KernelGym();
        gym.macro(0);
        gym.code(26, 0, 0, KernelGym.FIRST, 0);
        gym.endMacro();
        Check.code(gym, 1, 0, 0, 3, 26, 0, 0, 0);
        for (int i = 0; i < 50; i++) {
            gym.use(0, NUMBER, 1, NUMBER, 0);
        }
        gym.code(12, 0, 0, NUMBER, 8);
        for (int i = 0; i < 5; i++) {
            gym.addTest(500, 100, 1, 250);
        }
        gym.assemble();
        gym.start();
        gym.step(100);
        return gym;
    }
}
