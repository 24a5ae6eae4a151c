import java.util.ArrayList;
import java.util.List;

/** Promises 19 to 22, 26, 33 and 37: steps, taking them back, keys that come again, and sums found anew. */
public final class DebuggerTest {
    private static final int NUMBER = KernelGym.NUMBER, LABEL = KernelGym.LABEL;

    public static void main(String[] args) {
        runTo();
        back();
        backFromEnds();
        mostKept();
        keptAnew();
        everythingBack();
        backInFileCall();
        changedAt();
        keysComeAgain();
        keysInOrder();
        keysStay();
        sumAnew();
        sumAnewFromStart();
        Check.end();
    }

    private static void runTo() {
        KernelGym gym = Check.started(4, 0, 0, 1, 4, 0, 0, 1, 12, 0, 0, 8);
        Check.due("at least one step", 3, gym.runTo(8, 100));
        Check.due("the next address", 1, gym.runTo(10, 100));
        Check.due("not so far", 2, gym.runTo(10, 2));
        Check.due("an address that is not reached", 100, gym.runTo(9, 100));
        KernelGym halts = Check.started(1, 0, 0, 1);
        Check.due("up to the halt", 2, halts.runTo(8, 100));
        KernelGym file = Check.started(1, 0, 0, 1, 26, 0, 0, 0, 12, 0, 0, 10);
        Check.due("not in a file call", 6, file.runTo(12, 100));
        // The counter is 10 in all steps of a file call, but the call goes on.
        Check.due("an address of a file call", 1, file.runTo(10, 100));
        KernelGym stay = Check.started(1, 0, 0, 1, 26, 0, 0, 0);
        stay.step(1);
        Check.due("an address of a file call that goes on", 6, stay.runTo(10, 100));
        Check.due("and that is halted behind", KernelGym.HALTED, stay.state());
    }

    private static void back() {
        KernelGym gym = Check.ran(3, 1, 0, 0, 5, 25, 1, 0, 0, 17, 1, 0, 2, 1, 0, 0, 6);
        Check.due("kept", 3, gym.kept());
        Check.due("back", 1, gym.back(1));
        Check.due("steps", 2, gym.steps());
        Check.due("kept then", 2, gym.kept());
        Check.due("stack", 256, gym.stack());
        Check.due("memory", 0, gym.memory(255));
        Check.due("tape", 1, gym.tape());
        Check.due("back further", 2, gym.back(200));
        Check.due("no tape", 0, gym.tape());
        Check.due("register", 0, gym.register(0));
        Check.due("counter", 8, gym.counter());
        Check.due("nothing kept", 0, gym.back(1));
        Check.due("forth", 5, gym.step(100));
        Check.due("state", KernelGym.HALTED, gym.state());
        KernelGym flags = Check.ran(3, 11, 0, 0, 0, 3, 0, 0, 0, 4, 0, 0, 1);
        flags.back(1);
        Check.due("the flag zero", 1, flags.flags());
        flags.back(2);
        Check.due("not zero", 0, flags.flags());
        KernelGym first = new KernelGym();
        first.vector(0, NUMBER, 9);
        Check.code(first, 3, 0, 0, 0, 3, 0, 0, 0);
        first.assemble();
        first.start();
        first.step(2);
        Check.due("the word at 0", 0, first.memory(0));
        first.back(2);
        Check.due("the word at 0 again", 9, first.memory(0));
    }

    /** What was kept of steps that are not kept any more must not come back. */
    private static void keptAnew() {
        KernelGym gym = Check.started(1, 0, 0, 3, 26, 0, 0, 0, 17, 0, 0, 7, 26, 0, 0, 1, 4, 1, 1, 1, 12, 0, 0, 16);
        for (int i = 0; i < 4; i++) {
            gym.step(100);
        }
        int sum = gym.sum();
        int written = gym.written();
        Check.due("back over 200", 200, gym.back(200));
        Check.due("no block is taken back", written, gym.written());
        Check.due("the file stays", 1, gym.size(3));
        Check.due("the word stays", 7, gym.memory(255));
        Check.due("the sum anew there", gym.sum(), gym.sumAnew(200));
        gym.step(100);
        gym.step(100);
        Check.due("the sum then", sum, gym.sum());
    }

    private static void backFromEnds() {
        KernelGym gym = Check.ran(1, 18, 0, 0, 0);
        Check.due("back from a fault", 1, gym.back(5));
        Check.due("state", KernelGym.RUNS, gym.state());
        Check.due("fault", 0, gym.fault());
        KernelGym halted = Check.ran(1, 0, 0, 0, 0);
        Check.due("back from a halt", 1, halted.back(1));
        Check.due("state then", KernelGym.RUNS, halted.state());
        Check.due("a key by then", 1, halted.press(4));
    }

    private static void mostKept() {
        KernelGym gym = Check.started(4, 0, 0, 1, 12, 0, 0, 8);
        gym.step(100);
        gym.step(99);
        Check.due("kept 199", 199, gym.kept());
        gym.step(1);
        Check.due("kept 200", 200, gym.kept());
        gym.step(51);
        Check.due("kept of 251", 200, gym.kept());
        Check.due("back", 50, gym.back(50));
        Check.due("kept then", 150, gym.kept());
        Check.due("register", 101, gym.register(0));
        gym.step(20);
        Check.due("kept and forth", 170, gym.kept());
        Check.due("back as far as kept", 170, gym.back(200));
        Check.due("steps", 51, gym.steps());
        Check.due("register then", 26, gym.register(0));
        Check.due("nothing kept", 0, gym.kept());
        gym.step(3);
        gym.crash();
        gym.start();
        Check.due("nothing kept by a start", 0, gym.kept());
        Check.due("nothing to take back", 0, gym.back(9));
    }

    /** A program with a timer, keys, files, the stack and the tape, which does not end soon. */
    private static KernelGym busy() {
        KernelGym gym = new KernelGym();
        gym.vector(0, LABEL, 1);
        gym.vector(1, LABEL, 2);
        Check.code(gym, 23, 0, 0, 7, 19, 0, 0, 0, 1, 0, 0, 3, 26, 0, 0, 0);
        gym.label(0);
        Check.code(gym, 4, 1, 1, 1, 26, 0, 0, 1, 25, 1, 0, 9, 22, 0, 0, 0, 17, 1, 0, 4, 18, 2, 0, 0);
        gym.code(12, 0, 0, LABEL, 0);
        gym.label(1);
        Check.code(gym, 11, 1, 1, 3, 3, 1, 1, 200, 23, 0, 0, 15, 21, 0, 0, 0);
        gym.label(2);
        Check.code(gym, 24, 2, 2, 0, 3, 2, 2, 201, 21, 0, 0, 0);
        gym.assemble();
        gym.start();
        return gym;
    }

    private static List<Long> all(KernelGym gym) {
        List<Long> all = Check.answersOf(gym);
        for (int i = 0; i < 4; i++) {
            all.add((long) gym.register(i));
        }
        for (int i = 0; i < gym.tape(); i++) {
            all.add((long) gym.tapeAt(i));
        }
        all.remove(5);
        return all;
    }

    private static void everythingBack() {
        for (int i = 149; i >= 0; i--) {
            KernelGym gym = busyWithKeys(150);
            Check.due("back", 150 - i, gym.back(150 - i));
            // A key that was told for this number of steps has come by then.
            Check.same("the machine ahead of step " + i, all(busyWithKeys(i)), all(gym));
        }
        KernelGym gym = busyWithKeys(150);
        gym.back(150);
        gym.step(100);
        gym.step(50);
        Check.same("the machine behind the same steps", all(busyWithKeys(150)), all(gym));
        gym.back(77);
        gym.step(77);
        Check.same("the machine back and forth", all(busyWithKeys(150)), all(gym));
    }

    /** The busy machine behind so many steps, with a key behind each 40 of them, from the third one on. */
    private static KernelGym busyWithKeys(int steps) {
        KernelGym gym = busy();
        for (int i = 0; i <= steps; i++) {
            if (i % 40 == 3 && i < 150) {
                gym.press(i);
            }
            if (i < steps) {
                Check.due("a step", 1, gym.step(1));
            }
        }
        return gym;
    }

    private static void backInFileCall() {
        KernelGym gym = Check.started(1, 0, 0, 1, 26, 0, 0, 0, 1, 1, 1, 77, 26, 0, 0, 1, 26, 0, 0, 1);
        List<Integer> sums = new ArrayList<>();
        int made = 0;
        do {
            sums.add(gym.sum());
            made++;
        } while (gym.step(1) == 1);
        Check.due("steps of three file calls", 1 + 5 + 1 + 9 + 7 + 1, made - 1);
        // Back into the first call, when the others have been made; its blocks must be known again.
        for (int to = made - 2; to >= 0; to--) {
            gym.back(made - 1 - to);
            Check.due("the sum behind " + to, sums.get(to), gym.sum());
            gym.step(100);
            Check.due("the sum at the end, from " + to, sums.get(made - 1), gym.sum());
            Check.due("the size at the end", 2, gym.size(1));
            Check.due("blocks written", 4 + 8 + 6, gym.written());
        }
    }

    private static void changedAt() {
        KernelGym gym = Check.ran(5, 1, 0, 0, 7, 3, 0, 0, 100, 17, 0, 0, 1, 3, 0, 0, 100, 15, 0, 0, 40);
        Check.due("the latest step that wrote", 3, gym.changedAt(100));
        Check.due("a push", 2, gym.changedAt(255));
        Check.due("a call", 4, gym.changedAt(254));
        Check.due("a word that none wrote", -1, gym.changedAt(101));
        Check.due("a word of the program", -1, gym.changedAt(8));
        gym.back(2);
        Check.due("the latest one behind back", 1, gym.changedAt(100));
        gym.back(2);
        Check.due("none is left", -1, gym.changedAt(100));
        KernelGym far = Check.started(3, 1, 1, 100, 12, 0, 0, 10);
        far.step(100);
        far.step(100);
        Check.due("the first of 200 kept", 0, far.changedAt(100));
        far.step(1);
        Check.due("it is not kept any more", -1, far.changedAt(100));
        far.crash();
        Check.due("none while OFF", -1, far.changedAt(100));
        KernelGym key = new KernelGym();
        key.vector(1, NUMBER, 30);
        key.code(19, 0, 0, NUMBER, 0);
        key.assemble();
        key.start();
        key.press(3);
        key.step(2);
        Check.due("an interrupt writes its counter", 1, key.changedAt(255));
        Check.due("and its flags", 1, key.changedAt(254));
        KernelGym fault = Check.ran(2, 1, 0, 0, 4, 3, 0, 0, 256);
        Check.due("a step that fails writes nothing", -1, fault.changedAt(0));
    }

    private static void keysComeAgain() {
        KernelGym gym = Check.started(4, 0, 0, 1, 12, 0, 0, 8);
        gym.step(10);
        gym.press(5);
        gym.back(1);
        Check.due("the key has not come", 0, gym.flags());
        gym.step(1);
        Check.due("the key has come again", 16, gym.flags());
        gym.back(10);
        Check.due("nothing at the start", 0, gym.flags());
        gym.press(6);
        Check.due("a key at the start", 16, gym.flags());
        gym.step(5);
        gym.back(5);
        Check.due("a key told for 0 steps has come", 16, gym.flags());
        KernelGym reader = Check.started(24, 0, 0, 0, 12, 0, 0, 8);
        reader.step(4);
        reader.press(5);
        reader.step(1);
        Check.due("the key is read", 5, reader.register(0));
        reader.back(3);
        reader.step(1);
        Check.due("the key has not come yet", 65535, reader.register(0));
        reader.step(1);
        reader.step(1);
        Check.due("the key is read again", 5, reader.register(0));
        reader.step(2);
        Check.due("it is read once", 65535, reader.register(0));
    }

    private static void keysInOrder() {
        KernelGym gym = Check.started(4, 1, 1, 1, 11, 1, 1, 20, 14, 0, 0, 8, 24, 0, 0, 0, 25, 1, 0, 0,
            12, 0, 0, 14);
        gym.step(10);
        gym.press(1);
        gym.step(10);
        gym.press(2);
        gym.press(3);
        gym.back(15);
        Check.due("a key ahead of those told", 4, gym.press(4));
        gym.step(5);
        Check.due("a key for the same number of steps", 5, gym.press(5));
        gym.step(100);
        int[] due = {4, 1, 5, 2, 3, 65535};
        for (int i = 0; i < due.length; i++) {
            Check.due("the key " + i, due[i], gym.tapeAt(i));
        }
    }

    private static void keysStay() {
        KernelGym gym = Check.started(4, 0, 0, 1, 12, 0, 0, 8);
        gym.step(50);
        for (int i = 1; i <= 20; i++) {
            Check.due("press", i, gym.press(i));
        }
        gym.back(30);
        Check.untimely(gym, "the keys that have not come count", () -> gym.press(9));
        gym.step(30);
        Check.due("they come", 16, gym.flags());
        gym.crash();
        gym.start();
        gym.step(50);
        Check.due("they do not come behind another start", 0, gym.flags());
        Check.due("the first key since then", 1, gym.press(9));
    }

    private static void sumAnew() {
        KernelGym gym = busy();
        List<Integer> sums = new ArrayList<>();
        for (int i = 0; i < 120; i++) {
            if (i % 25 == 9) {
                gym.press(i);
            }
            sums.add(gym.sum());
            gym.step(1);
        }
        for (int i = 0; i < 120; i++) {
            Check.due("the sum anew behind " + i, sums.get(i), gym.sumAnew(i));
        }
        Check.due("the sum now", gym.sum(), gym.sumAnew(120));
        Check.outside(gym, "behind too many", () -> gym.sumAnew(121));
        gym.back(60);
        Check.outside(gym, "behind steps taken back", () -> gym.sumAnew(61));
        Check.due("the sum anew then", sums.get(60), gym.sumAnew(60));
        gym.press(3);
        Check.due("the sum anew with a key", gym.sum(), gym.sumAnew(60));
        Check.due("and ahead of it", sums.get(59), gym.sumAnew(59));
        gym.step(40);
        Check.due("the sum anew on another way", gym.sum(), gym.sumAnew(100));
    }

    private static void sumAnewFromStart() {
        KernelGym gym = busy();
        gym.step(20);
        gym.crash();
        int mended = gym.start();
        Check.holds("the disk was mended", mended > 0);
        int first = gym.sum();
        gym.step(60);
        Check.due("the sum at the start", first, gym.sumAnew(0));
        Check.due("the sum from a disk with files", gym.sum(), gym.sumAnew(60));
        gym.clear();
        gym.assemble();
        Check.due("another image is for the next start", gym.sum(), gym.sumAnew(60));
        Check.due("the sum at the start still", first, gym.sumAnew(0));
        gym.submit();
        Check.due("the sum behind a submission", gym.sum(), gym.sumAnew(60));
        KernelGym longer = Check.started(4, 0, 0, 1, 12, 0, 0, 8);
        for (int i = 0; i < 10; i++) {
            longer.step(100);
        }
        Check.due("the sum behind 1000 steps", longer.sum(), longer.sumAnew(1000));
    }
}
