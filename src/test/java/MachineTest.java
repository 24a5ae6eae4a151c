/** Promises 16 to 36, but for the debugger: the processor, its interrupts and its tape. */
public final class MachineTest {
    private static final int NUMBER = KernelGym.NUMBER, LABEL = KernelGym.LABEL;

    public static void main(String[] args) {
        whileOff();
        refusedWhileOff();
        started();
        moves();
        arithmetic();
        bits();
        compare();
        jumps();
        calls();
        stackEdges();
        addresses();
        operations();
        tape();
        timer();
        keys();
        interruptOrder();
        interruptStack();
        waiting();
        mostSteps();
        rangesOfCalls();
        sums();
        Check.end();
    }

    private static void whileOff() {
        KernelGym gym = new KernelGym();
        Check.untimely(gym, "start without an image", () -> gym.start());
        Check.code(gym, 17, 0, 0, 5, 25, 0, 0, 6, 5, 0, 0, 1, 23, 0, 0, 9, 19, 0, 0, 0, 25, 0, 0, 1);
        gym.assemble();
        gym.start();
        gym.step(5);
        gym.press(3);
        Check.due("crash", 5, gym.crash());
        Check.due("state", KernelGym.OFF, gym.state());
        Check.due("steps", 0, gym.steps());
        Check.due("kept", 0, gym.kept());
        Check.due("counter", 0, gym.counter());
        Check.due("stack", 0, gym.stack());
        Check.due("flags", 0, gym.flags());
        Check.due("tape", 0, gym.tape());
        Check.due("register", 0, gym.register(0));
        Check.due("memory", 0, gym.memory(8));
        Check.due("changedAt", -1, gym.changedAt(255));
        Check.due("sum of an empty machine", new KernelGym().sum(), gym.sum());
        Check.due("start again", 0, gym.start());
        Check.due("no time of the timer", 5, gym.step(5));
        Check.due("register then", 65535, gym.register(0));
    }

    private static void refusedWhileOff() {
        Edges.untimely("crash while OFF", Edges::crashed, gym -> gym.crash());
        Edges.untimely("step while OFF", Edges::crashed, gym -> gym.step(1));
        Edges.untimely("runTo while OFF", Edges::crashed, gym -> gym.runTo(8, 1));
        Edges.untimely("back while OFF", Edges::crashed, gym -> gym.back(1));
        Edges.untimely("press while OFF", Edges::crashed, gym -> gym.press(1));
        Edges.untimely("sumAnew while OFF", Edges::crashed, gym -> gym.sumAnew(0));
        Edges.untimely("sumAnew out of range while OFF", Edges::crashed, gym -> gym.sumAnew(-1));
        Edges.outside("step of no steps while OFF", Edges::crashed, gym -> gym.step(0));
        Edges.outside("runTo of no address while OFF", Edges::crashed, gym -> gym.runTo(-1, 1));
        Edges.outside("back of no steps while OFF", Edges::crashed, gym -> gym.back(0));
        Edges.outside("press of no key while OFF", Edges::crashed, gym -> gym.press(-1));
        Edges.beyond("tapeAt while OFF", Edges::crashed, gym -> gym.tapeAt(0));
    }

    private static void started() {
        KernelGym gym = Check.started(1, 0, 0, 7);
        Check.due("state", KernelGym.RUNS, gym.state());
        Check.due("counter", 8, gym.counter());
        Check.due("stack", 256, gym.stack());
        Check.due("flags", 0, gym.flags());
        Check.due("fault", 0, gym.fault());
        Check.due("writesLeft", 0, gym.writesLeft());
        Check.due("memory", 16, gym.memory(8));
        Check.due("memory behind", 7, gym.memory(9));
        Check.untimely(gym, "start while on", () -> gym.start());
        Check.untimely(gym, "format while on", () -> gym.format());
        gym.step(2);
        Check.due("state then", KernelGym.HALTED, gym.state());
        Check.due("the counter stays", 10, gym.counter());
        Check.due("steps", 2, gym.steps());
        Check.due("no steps more", 0, gym.step(5));
        Check.due("no steps more to an address", 0, gym.runTo(10, 5));
        Check.untimely(gym, "start while HALTED", () -> gym.start());
        Check.untimely(gym, "format while HALTED", () -> gym.format());
        Check.untimely(gym, "press while HALTED", () -> gym.press(1));
        Check.due("crash while HALTED", 2, gym.crash());
    }

    private static void moves() {
        KernelGym gym = Check.ran(6, 1, 0, 0, 300, 1, 1, 0, 65535, 3, 1, 1, 255, 2, 2, 2, 255, 1, 3, 2, 65300,
            1, 3, 3, 4);
        Check.due("a number", 300, gym.register(0));
        Check.due("a register and a number", 299, gym.register(1));
        Check.due("a word stored", 299, gym.memory(255));
        Check.due("a word loaded", 299, gym.register(2));
        Check.due("only x with the same register", 4, gym.register(3));
        Check.due("no flags", 0, gym.flags());
        KernelGym indexed = Check.ran(3, 1, 1, 1, 250, 3, 0, 1, 4, 2, 3, 1, 65294);
        Check.due("a word stored by a register", 0, indexed.memory(254));
        Check.due("a word loaded by a register", 16 + 4 + 1, indexed.register(3));
    }

    /** Does one operation on register 0 with a number, and asks the register and the flags. */
    private static void done(String what, int operation, int word, int y, int register, int flags) {
        // A subtraction ahead makes both flags known: less, and not zero.
        KernelGym gym = Check.ran(3, 5, 3, 3, 1, 1, 0, 0, word, operation, 0, 0, y);
        Check.due(what, register, gym.register(0));
        Check.due(what + ", its flags", flags, gym.flags());
        Check.due(what + ", the counter", 14, gym.counter());
    }

    private static void arithmetic() {
        done("a sum", 4, 3, 4, 7, 0);
        done("the highest sum", 4, 65534, 1, 65535, 0);
        done("a sum of 65536", 4, 65535, 1, 0, 3);
        done("a sum above", 4, 65535, 65535, 65534, 2);
        done("a sum of 0", 4, 0, 0, 0, 1);
        done("a difference", 5, 9, 4, 5, 0);
        done("a difference of 0", 5, 9, 9, 0, 1);
        done("a difference below 0", 5, 4, 9, 65531, 2);
        done("a product", 6, 255, 257, 65535, 0);
        done("a product of 65536", 6, 256, 256, 0, 3);
        done("the highest product", 6, 65535, 65535, 1, 2);
        done("a product of 0", 6, 65535, 0, 0, 1);
    }

    private static void bits() {
        done("common bits", 7, 0xF0F0, 0xFF00, 0xF000, 0);
        done("no common bits", 7, 0xF0F0, 0x0F0F, 0, 1);
        done("other bits", 8, 0xF0F0, 0xFF00, 0x0FF0, 0);
        done("no other bits", 8, 0xF0F0, 0xF0F0, 0, 1);
        done("shifted left", 9, 0xF003, 2, 0xC00C, 0);
        done("shifted left by 16", 9, 0xF003, 16, 0xF003, 0);
        done("shifted left by 15", 9, 65535, 31, 0x8000, 0);
        done("shifted out left", 9, 0x8000, 1, 0, 1);
        done("shifted right", 10, 0xF003, 2, 0x3C00, 0);
        done("shifted right by 65535", 10, 0xF003, 65535, 1, 0);
        done("shifted out right", 10, 1, 17, 0, 1);
    }

    private static void compare() {
        done("compared with less", 11, 9, 4, 9, 0);
        done("compared with the same", 11, 9, 9, 9, 1);
        done("compared with more", 11, 4, 9, 4, 2);
        KernelGym gym = Check.ran(3, 1, 1, 1, 5, 1, 0, 0, 8, 11, 0, 1, 3);
        Check.due("compared with a register and a number", 1, gym.flags());
    }

    private static void jumps() {
        KernelGym gym = Check.ran(2, 1, 1, 1, 30, 12, 0, 1, 3);
        Check.due("a jump", 33, gym.counter());
        int[][] cases = {{5, 5, 13, 40}, {6, 5, 13, 14}, {4, 5, 13, 14}, {5, 5, 14, 14}, {6, 5, 14, 14},
            {4, 5, 14, 40}};
        for (int[] row : cases) {
            KernelGym jump = Check.ran(3, 1, 0, 0, row[0], 11, 0, 0, row[1], row[2], 0, 0, 40);
            Check.due("jump " + row[2] + " for " + row[0] + " and " + row[1], row[3], jump.counter());
        }
    }

    private static void calls() {
        KernelGym gym = Check.ran(2, 15, 0, 0, 12, 0, 0, 0, 0, 17, 0, 0, 6);
        Check.due("a call pushes", 10, gym.memory(255));
        Check.due("a push", 6, gym.memory(254));
        Check.due("the stack", 254, gym.stack());
        Check.due("the counter", 14, gym.counter());
        KernelGym back = Check.ran(2, 15, 0, 0, 12, 0, 0, 0, 0, 16, 0, 0, 99);
        Check.due("a return", 10, back.counter());
        Check.due("the stack then", 256, back.stack());
        Check.due("a call's state", KernelGym.RUNS, back.state());
        KernelGym pull = Check.ran(4, 1, 1, 1, 5, 17, 0, 1, 6, 18, 2, 0, 0, 17, 3, 3, 8);
        Check.due("a push by a register, pulled", 11, pull.register(2));
        Check.due("the next push is at the same place", 8, pull.memory(255));
    }

    private static void faulted(KernelGym gym, String what, int fault, int counter) {
        Check.due(what + ", state", KernelGym.FAULTED, gym.state());
        Check.due(what + ", fault", fault, gym.fault());
        Check.due(what + ", counter", counter, gym.counter());
        Check.due(what + ", no steps more", 0, gym.step(3));
        int steps = gym.steps();
        Check.due(what + ", crash", steps, gym.crash());
        Check.due(what + ", no fault while OFF", 0, gym.fault());
    }

    private static void stackEdges() {
        faulted(Check.ran(1, 18, 0, 0, 0), "a pull of nothing", KernelGym.BAD_STACK, 8);
        faulted(Check.ran(1, 16, 0, 0, 0), "a return to nothing", KernelGym.BAD_STACK, 8);
        faulted(Check.ran(1, 21, 0, 0, 0), "an interrupt's return to nothing", KernelGym.BAD_STACK, 8);
        KernelGym one = Check.ran(2, 17, 0, 0, 3, 21, 0, 0, 0);
        Check.due("nothing is pulled by a fault", 255, one.stack());
        Check.due("no flags by a fault", 0, one.flags());
        faulted(one, "an interrupt's return to one word", KernelGym.BAD_STACK, 10);
        stackFull();
    }

    /**
     * A running machine whose stack pointer is this, from 0 to 15. Its loop pushes 272, until that goes over the
     * number of the jump behind it; then the jump is to 100, where all words are 272, which push 272 again.
     */
    private static KernelGym deep(int stack) {
        KernelGym gym = new KernelGym();
        gym.vector(0, NUMBER, 30);
        gym.vector(1, NUMBER, 40);
        Check.code(gym, 19, 0, 0, 0, 1, 1, 1, 65364, 17, 0, 0, 272, 12, 0, 1, 184);
        gym.assemble();
        gym.start();
        for (int i = 0; i < 4; i++) {
            gym.step(100);
        }
        gym.step(84);
        Check.due("the stack that goes down", 15, gym.stack());
        Check.due("the counter of the pushes", 100, gym.counter());
        if (stack < 15) {
            gym.step(15 - stack);
        }
        Check.due("the stack", stack, gym.stack());
        Check.due("no fault up to there", 0, gym.fault());
        return gym;
    }

    private static void stackFull() {
        KernelGym gym = deep(0);
        Check.due("the word at 0", 272, gym.memory(0));
        gym.step(1);
        Check.due("the counter of a push on a full stack", 130, gym.counter());
        Check.due("the flags", 4, gym.flags());
        faulted(gym, "a push on a full stack", KernelGym.BAD_STACK, 130);
        // Words 250 are calls to 250, if they are at 250.
        KernelGym calls = new KernelGym();
        Check.code(calls, 17, 0, 0, 250, 12, 0, 0, 8);
        calls.assemble();
        calls.start();
        for (int i = 0; i < 5; i++) {
            calls.step(100);
        }
        calls.step(1);
        Check.due("a call to a full stack", 0, calls.stack());
        Check.due("no fault by it", 0, calls.fault());
        Check.due("the step behind it", 1, calls.step(100));
        faulted(calls, "a call on a full stack", KernelGym.BAD_STACK, 250);
    }

    private static void addresses() {
        faulted(Check.ran(1, 2, 0, 0, 256), "a load from 256", KernelGym.BAD_ADDRESS, 8);
        faulted(Check.ran(1, 3, 0, 0, 256), "a store to 256", KernelGym.BAD_ADDRESS, 8);
        faulted(Check.ran(1, 3, 0, 0, 65535), "a store to 65535", KernelGym.BAD_ADDRESS, 8);
        faulted(Check.ran(2, 12, 0, 0, 255), "an instruction at 255", KernelGym.BAD_ADDRESS, 255);
        faulted(Check.ran(2, 12, 0, 0, 256), "an instruction at 256", KernelGym.BAD_ADDRESS, 256);
        faulted(Check.ran(2, 12, 0, 0, 65535), "an instruction at 65535", KernelGym.BAD_ADDRESS, 65535);
        KernelGym last = Check.ran(2, 12, 0, 0, 254);
        Check.due("an instruction at 254", KernelGym.HALTED, last.state());
    }

    private static void operations() {
        for (int word : new int[] {27 * 16, 27 * 16 + 15, 65535}) {
            KernelGym gym = new KernelGym();
            gym.word(NUMBER, word);
            gym.assemble();
            gym.start();
            gym.step(1);
            faulted(gym, "the word " + word, KernelGym.BAD_OPERATION, 8);
        }
        KernelGym gym = new KernelGym();
        gym.word(NUMBER, 26 * 16 + 15);
        gym.word(NUMBER, 7);
        gym.assemble();
        gym.start();
        gym.step(1);
        Check.due("the highest operation", KernelGym.RUNS, gym.state());
        Check.due("a file call above 6", 9, gym.register(3));
    }

    private static void tape() {
        KernelGym gym = Check.ran(100, 25, 0, 0, 3, 4, 1, 1, 5, 25, 0, 1, 0, 12, 0, 0, 8);
        Check.due("words on the tape", 50, gym.tape());
        Check.due("tape 0", 3, gym.tapeAt(0));
        Check.due("tape 1", 5, gym.tapeAt(1));
        Check.due("tape 49", 125, gym.tapeAt(49));
        Check.refused(gym, "tape -1", IndexOutOfBoundsException.class, () -> gym.tapeAt(-1));
        Check.refused(gym, "tape 50", IndexOutOfBoundsException.class, () -> gym.tapeAt(50));
        Check.due("steps up to a full tape", 21, gym.step(100));
        Check.due("a full tape", 60, gym.tape());
        Check.due("its last word", 150, gym.tapeAt(59));
        Check.refused(gym, "tape 60", IndexOutOfBoundsException.class, () -> gym.tapeAt(60));
        faulted(gym, "a word on a full tape", KernelGym.TAPE_FULL, 8);
    }

    private static void timer() {
        KernelGym gym = Check.started(23, 0, 0, 3, 4, 0, 0, 1, 12, 0, 0, 10);
        gym.step(2);
        Check.due("time behind two steps", 0, gym.flags());
        gym.step(1);
        Check.due("the timer's interrupt is pending", 8, gym.flags());
        gym.step(3);
        Check.due("it stays pending", 8, gym.flags());
        KernelGym one = Check.ran(1, 23, 0, 0, 1);
        Check.due("an interval of 1", 8, one.flags());
        KernelGym none = Check.ran(3, 23, 0, 0, 3, 23, 0, 0, 0, 12, 0, 0, 12);
        none.step(9);
        Check.due("an interval of 0", 0, none.flags());
        KernelGym anew = Check.ran(5, 23, 0, 0, 4, 1, 0, 0, 0, 23, 0, 0, 4, 1, 0, 0, 0, 1, 0, 0, 0, 1, 0, 0, 0);
        Check.due("the time is 0 by setting", 0, anew.flags());
        anew.step(1);
        Check.due("the timer then", 8, anew.flags());
        KernelGym halted = Check.ran(2, 23, 0, 0, 2, 0, 0, 0, 0);
        Check.due("time passes behind the step that halts", 8, halted.flags());
        KernelGym fault = Check.ran(2, 23, 0, 0, 2, 18, 0, 0, 0);
        Check.due("time passes behind the step that fails", 8, fault.flags());
        KernelGym register = Check.ran(3, 1, 1, 1, 1, 23, 0, 1, 1, 1, 0, 0, 0);
        Check.due("an interval by a register", 8, register.flags());
    }

    private static void keys() {
        KernelGym gym = Check.started(24, 0, 0, 0, 12, 0, 0, 8);
        gym.step(1);
        Check.due("no key", 65535, gym.register(0));
        Check.due("press", 1, gym.press(0));
        Check.due("press again", 2, gym.press(65535));
        Check.due("and again", 3, gym.press(7));
        Check.due("an interrupt of keys", 16, gym.flags());
        gym.step(2);
        Check.due("the first key", 0, gym.register(0));
        gym.step(2);
        Check.due("the second key", 65535, gym.register(0));
        gym.step(2);
        Check.due("the third key", 7, gym.register(0));
        gym.step(2);
        Check.due("no key then", 65535, gym.register(0));
        Check.due("reading does not end the interrupt", 16, gym.flags());
        for (int i = 4; i <= 20; i++) {
            Check.due("key " + i, i, gym.press(i));
        }
        Check.untimely(gym, "the 21st key", () -> gym.press(1));
        Check.outside(gym, "the range of the 21st key", () -> gym.press(65536));
        gym.crash();
        gym.start();
        Check.due("no keys by a start", 0, gym.flags());
        Check.due("the first key since the start", 1, gym.press(9));
    }

    private static KernelGym interruptible() {
        KernelGym gym = new KernelGym();
        gym.vector(0, NUMBER, 40);
        gym.vector(1, NUMBER, 50);
        return gym;
    }

    private static void interruptOrder() {
        KernelGym gym = interruptible();
        // 8: less is set; 10: the timer; 12: interrupts on; 14: nothing
        Check.code(gym, 5, 2, 2, 1, 23, 0, 0, 2, 19, 0, 0, 0, 1, 0, 0, 1);
        for (int i = 0; i < 12; i++) {
            gym.space(2);
        }
        Check.code(gym, 21, 0, 0, 0);
        for (int i = 0; i < 4; i++) {
            gym.space(2);
        }
        Check.code(gym, 20, 0, 0, 0, 4, 3, 3, 0, 19, 0, 0, 0);
        gym.assemble();
        gym.start();
        gym.press(1);
        Check.due("steps", 3, gym.step(3));
        Check.due("both are pending", 4 + 8 + 16 + 2, gym.flags());
        gym.step(1);
        Check.due("the timer comes first", 40, gym.counter());
        Check.due("it is not pending, interrupts are off", 16 + 2, gym.flags());
        Check.due("the counter is pushed", 14, gym.memory(255));
        Check.due("then the flags", 2, gym.memory(254));
        Check.due("the stack", 254, gym.stack());
        gym.step(1);
        Check.due("back to the counter", 14, gym.counter());
        Check.due("interrupts are on, time has passed", 4 + 8 + 16 + 2, gym.flags());
        KernelGym second = interruptible();
        Check.code(second, 19, 0, 0, 0, 5, 0, 0, 0);
        second.assemble();
        second.start();
        second.press(1);
        second.step(2);
        Check.due("keys come when the timer does not", 50, second.counter());
        Check.due("keys are not pending", 0, second.flags());
        Check.due("the flags that are pushed", 0, second.memory(254));
        interruptReturn();
    }

    private static void interruptReturn() {
        for (int flags = 0; flags < 8; flags++) {
            KernelGym gym = Check.ran(3, 17, 0, 0, 77, 17, 0, 0, 65528 + flags, 21, 0, 0, 0);
            Check.due("flags by a return, for " + flags, 4 + (flags & 3), gym.flags());
            Check.due("the counter by a return", 77, gym.counter());
            Check.due("the stack by a return", 256, gym.stack());
        }
        KernelGym off = Check.started(19, 0, 0, 0, 20, 0, 0, 0, 1, 0, 0, 0);
        off.step(2);
        off.press(5);
        off.step(1);
        Check.due("interrupts are off", 16, off.flags());
        Check.due("so none is taken", 14, off.counter());
    }

    private static void interruptStack() {
        KernelGym one = deep(1);
        int counter = one.counter();
        one.press(1);
        one.step(1);
        Check.due("nothing is pushed", 1, one.stack());
        Check.due("the word at 0 stays", 30, one.memory(0));
        Check.due("the interrupt stays pending, interrupts on", 4 + 16, one.flags());
        faulted(one, "an interrupt with room for one word", KernelGym.BAD_STACK, counter);
        KernelGym two = deep(2);
        counter = two.counter();
        two.press(1);
        two.step(1);
        Check.due("room for the interrupt", 0, two.fault());
        Check.due("the stack then", 0, two.stack());
        Check.due("the counter at 1", counter, two.memory(1));
        Check.due("the flags at 0", 0, two.memory(0));
        Check.due("the vector is read behind the pushes", counter, two.counter());
    }

    private static void waiting() {
        KernelGym gym = Check.ran(5, 22, 0, 0, 0, 1, 0, 0, 5);
        Check.due("the counter stays", 8, gym.counter());
        gym.press(1);
        gym.step(1);
        Check.due("it goes on by a key", 10, gym.counter());
        KernelGym timer = Check.ran(4, 23, 0, 0, 4, 22, 0, 0, 0);
        Check.due("it waits for the timer", 10, timer.counter());
        timer.step(1);
        Check.due("it goes on by the timer", 12, timer.counter());
        Check.due("which stays pending", 8, timer.flags());
    }

    private static void mostSteps() {
        KernelGym gym = Check.started(12, 0, 0, 8);
        for (int i = 0; i < 9; i++) {
            Check.due("steps", 100, gym.step(100));
        }
        Check.due("steps up to 950", 50, gym.step(50));
        Check.due("steps up to 1000", 50, gym.step(100));
        Check.due("no step more", 0, gym.step(1));
        Check.due("none to an address", 0, gym.runTo(8, 1));
        Check.due("it runs", KernelGym.RUNS, gym.state());
        Check.due("press behind 1000 steps", 1, gym.press(4));
        Check.due("steps made", 1000, gym.steps());
        Check.due("back", 3, gym.back(3));
        Check.due("and on", 3, gym.step(100));
        Check.due("crash", 1000, gym.crash());
        gym.start();
        Check.due("steps since the start", 100, gym.step(100));
    }

    private static void rangesOfCalls() {
        Edges.Maker runs = () -> Check.ran(3, 1, 0, 0, 5, 25, 0, 0, 1, 12, 0, 0, 8);
        for (int bad : new int[] {-1, 0, 101, Integer.MIN_VALUE, Integer.MAX_VALUE}) {
            Edges.outside("step " + bad, runs, gym -> gym.step(bad));
            Edges.outside("runTo with steps " + bad, runs, gym -> gym.runTo(8, bad));
        }
        for (int bad : new int[] {-1, 256, Integer.MAX_VALUE}) {
            Edges.outside("runTo " + bad, runs, gym -> gym.runTo(bad, 1));
            Edges.outside("memory " + bad, runs, gym -> gym.memory(bad));
            Edges.outside("changedAt " + bad, runs, gym -> gym.changedAt(bad));
        }
        for (int bad : new int[] {-1, 0, 201}) {
            Edges.outside("back " + bad, runs, gym -> gym.back(bad));
        }
        for (int bad : new int[] {-1, 4}) {
            Edges.outside("register " + bad, runs, gym -> gym.register(bad));
        }
        for (int bad : new int[] {-1, 65536}) {
            Edges.outside("press " + bad, runs, gym -> gym.press(bad));
        }
        Edges.outside("sumAnew -1", runs, gym -> gym.sumAnew(-1));
        Edges.outside("sumAnew 4", runs, gym -> gym.sumAnew(4));
        KernelGym gym = runs.make();
        Check.due("step 100", 100, gym.step(100));
        KernelGym far = Check.started(1, 0, 0, 0, 12, 0, 0, 255);
        Check.due("runTo 255", 2, far.runTo(255, 100));
        KernelGym near = Check.started(1, 0, 0, 0, 12, 0, 0, 0);
        Check.due("runTo 0", 2, near.runTo(0, 100));
        Check.due("register 3", 0, gym.register(3));
        Check.due("memory 255", 0, gym.memory(255));
    }

    private static void sums() {
        Check.due("the sum while OFF", Edges.sumOf(KernelGym::new, 0, 0), new KernelGym().sum());
        Edges.Maker plain = () -> Check.ran(4, 25, 0, 0, 8, 11, 0, 0, 0, 17, 0, 0, 5, 1, 3, 3, 65535);
        Check.due("the sum without a timer", Edges.sumOf(plain, 0, 0), plain.make().sum());
        KernelGym off = plain.make();
        off.crash();
        Check.due("no zero flag while OFF", 0, off.flags());
        Check.due("the sum", Edges.sumOf(MachineTest::timed, 9, 7), timed().sum());
        Check.due("the sum with a key", Edges.sumOf(MachineTest::timedWithKey, 9, 7), timedWithKey().sum());
        Check.due("the sum in a file call", Edges.sumOf(MachineTest::timedInCall, 9, 1), timedInCall().sum());
        Check.due("the timer in a file call", 4 + 8 + 16, timedInCall().flags());
    }

    private static KernelGym timed() {
        return Check.ran(7, 23, 0, 0, 9, 1, 0, 0, 3, 25, 0, 0, 0, 25, 0, 0, 8, 19, 0, 0, 0, 26, 0, 0, 0, 18, 0, 0, 0);
    }

    private static KernelGym timedWithKey() {
        KernelGym gym = timed();
        gym.press(5);
        return gym;
    }

    private static KernelGym timedInCall() {
        KernelGym gym = timedWithKey();
        gym.step(3);
        return gym;
    }
}
