/** The boundary cases that the document names under THE MACHINE, and in the promises 16 to 20, 22 to 32, 34 to 36. */
public final class EdgesOfMachineTest {
    private static final int NUMBER = KernelGym.NUMBER, LABEL = KernelGym.LABEL;
    private static final int ZERO = 1, LESS = 2, ON = 4, TIMER = 8, KEYS = 16;

    public static void main(String[] args) {
        Check.about("THE MACHINE");
        startedAnew();
        allZeroWhileOff();
        whichRegisters();
        addressOfOperations();
        results();
        flagsThatStay();
        jumps();
        lastInstruction();
        stackAtItsTop();
        stackAtItsBottom();
        callsAtTheBottom();
        interruptAtTheBottom();
        timerAtTheBottom();
        returns();
        interruptsInOrder();
        vectors();
        waits();
        intervals();
        timeOfEachStep();
        keysRead();
        keysComeBehindTheEnd();
        operations();
        fullTape();
        promises();
        Check.end();
    }

    private static void promises() {
        start();
        crash();
        step();
        runTo();
        press();
        pressInOrder();
        stateAndFault();
        stepsAndCounter();
        flags();
        writesLeft();
        registersAndMemory();
        tapeAt();
        sum();
        Check.namesPromises(16, 17);
        Check.namesPromises(19, 20);
        Check.namesPromises(22, 25);
        Check.namesPromises(27, 32);
        Check.namesPromises(34, 36);
    }

    private static void startedAnew() {
        KernelGym fresh = noFiles();
        KernelGym again = noFiles();
        again.press(5);
        again.step(60);
        Check.holds("the tape is used", again.tape() > 0);
        again.crash();
        again.start();
        Check.due("the counter", 8, again.counter());
        Check.due("the stack pointer", 256, again.stack());
        Check.due("the flags", 0, again.flags());
        Check.due("the tape", 0, again.tape());
        Check.due("the writes of a file call", 0, again.writesLeft());
        for (int i = 0; i < 50; i++) {
            Check.due("the machine behind another start and " + i + " steps", fresh.sum(), again.sum());
            fresh.step(1);
            again.step(1);
        }
    }

    /** A running machine with a timer, keys, the stack, the tape and both flags. */
    private static KernelGym noFiles() {
        KernelGym gym = new KernelGym();
        gym.vector(0, LABEL, 1);
        gym.vector(1, LABEL, 2);
        Check.code(gym, 23, 0, 0, 9, 19, 0, 0, 0);
        gym.label(0);
        Check.code(gym, 4, 1, 1, 65535, 17, 1, 0, 4, 25, 1, 0, 9, 5, 3, 3, 1, 25, 2, 3, 0);
        gym.code(12, 0, 0, LABEL, 0);
        gym.label(1);
        Check.code(gym, 4, 0, 0, 1, 11, 2, 2, 0, 21, 0, 0, 0);
        gym.label(2);
        Check.code(gym, 24, 2, 2, 0, 3, 2, 2, 201, 21, 0, 0, 0);
        gym.assemble();
        gym.start();
        return gym;
    }

    private static void allZeroWhileOff() {
        Edges.Maker[] makers = {Edges::running, Edges::halted, Edges::faulted, Edges::calling, KernelGym::new};
        for (Edges.Maker maker : makers) {
            KernelGym gym = maker.make();
            if (gym.state() != KernelGym.OFF) {
                gym.crash();
            }
            long sum = gym.state() + gym.fault() + gym.steps() + gym.kept() + gym.counter() + gym.stack()
                + gym.flags() + gym.writesLeft() + gym.tape();
            Check.due("what can be asked while OFF", 0, sum);
            for (int register = 0; register < 4; register++) {
                Check.due("register " + register + " while OFF", 0, gym.register(register));
            }
            for (int address = 0; address < 256; address++) {
                Check.due("memory " + address + " while OFF", 0, gym.memory(address));
            }
            Check.due("changedAt while OFF", -1, gym.changedAt(100));
        }
    }

    /** d becomes y, which is x alone if both registers are the same, for each two registers. */
    private static void whichRegisters() {
        int[] words = {65535, 1, 4660, 32768};
        for (int d = 0; d < 4; d++) {
            for (int s = 0; s < 4; s++) {
                for (int x : new int[] {0, 1, 65535}) {
                    KernelGym gym = Check.ran(5, 1, 0, 0, words[0], 1, 1, 1, words[1], 1, 2, 2, words[2],
                        1, 3, 3, words[3], 1, d, s, x);
                    int y = d == s ? x : (words[s] + x) % 65536;
                    for (int register = 0; register < 4; register++) {
                        Check.due("register " + register + " by registers " + d + " and " + s + " and " + x,
                            register == d ? y : words[register], gym.register(register));
                    }
                }
            }
        }
    }

    private static void addressOfOperations() {
        for (int operation = 2; operation <= 3; operation++) {
            String what = "operation " + operation;
            for (int address : new int[] {0, 255}) {
                KernelGym gym = Check.ran(1, operation, 0, 0, address);
                Check.due(what + " at " + address, KernelGym.RUNS, gym.state());
            }
            for (int address : new int[] {256, 32768, 65535}) {
                fault(what + " at " + address, KernelGym.BAD_ADDRESS, Check.ran(1, operation, 0, 0, address), 8);
            }
            KernelGym wraps = Check.ran(2, 1, 1, 1, 65535, operation, 0, 1, 256);
            Check.due(what + " at an address that wraps around to 255", KernelGym.RUNS, wraps.state());
            fault(what + " at an address that does not wrap around", KernelGym.BAD_ADDRESS,
                Check.ran(2, 1, 1, 1, 65279, operation, 0, 1, 256), 10);
        }
        KernelGym words = Check.ran(5, 1, 0, 0, 65535, 3, 0, 0, 0, 3, 0, 0, 255, 2, 1, 1, 0, 2, 2, 2, 255);
        Check.due("a word at 0", 65535, words.memory(0));
        Check.due("a word at 255", 65535, words.memory(255));
        Check.due("a word from 0", 65535, words.register(1));
        Check.due("a word from 255", 65535, words.register(2));
        KernelGym own = Check.ran(1, 3, 0, 0, 8, 0, 0, 0, 0);
        Check.due("an instruction writes over itself", 0, own.memory(8));
        Check.due("and goes on", 10, own.counter());
    }

    /** The machine is FAULTED with this counter, and everything else is as it was ahead of the step. */
    private static void fault(String what, int fault, KernelGym gym, int counter) {
        Check.due(what + ": state", KernelGym.FAULTED, gym.state());
        Check.due(what + ": fault", fault, gym.fault());
        Check.due(what + ": counter", counter, gym.counter());
        int steps = gym.steps();
        Check.due(what + ": no step more", 0, gym.step(100));
        int[] seen = seenOf(gym);
        Check.due(what + ": a step back", 1, gym.back(1));
        Check.due(what + ": it runs ahead of it", KernelGym.RUNS, gym.state());
        Check.due(what + ": the step counts", steps - 1, gym.steps());
        int[] ahead = seenOf(gym);
        for (int i = 0; i < seen.length; i++) {
            Check.due(what + ": what can be seen, " + i, ahead[i], seen[i]);
        }
    }

    private static int[] seenOf(KernelGym gym) {
        return new int[] {gym.counter(), gym.stack(), gym.flags(), gym.register(0), gym.register(1), gym.register(2),
            gym.register(3), gym.tape(), gym.writesLeft(), gym.memory(0), gym.memory(1), gym.memory(255)};
    }

    /** The operation, the word in d, y, and what is due: the word in d, and the flags. */
    private static final int[][] RESULTS = {
        {4, 0, 0, 0, ZERO}, {4, 65535, 0, 65535, 0}, {4, 0, 65535, 65535, 0}, {4, 65534, 1, 65535, 0},
        {4, 65535, 1, 0, ZERO + LESS}, {4, 65535, 2, 1, LESS}, {4, 65535, 65535, 65534, LESS},
        {4, 32768, 32768, 0, ZERO + LESS},
        {5, 0, 0, 0, ZERO}, {5, 1, 1, 0, ZERO}, {5, 1, 0, 1, 0}, {5, 0, 1, 65535, LESS}, {5, 65535, 65535, 0, ZERO},
        {5, 0, 65535, 1, LESS}, {5, 65534, 65535, 65535, LESS}, {5, 65535, 65534, 1, 0},
        {6, 0, 65535, 0, ZERO}, {6, 65535, 0, 0, ZERO}, {6, 1, 65535, 65535, 0}, {6, 255, 257, 65535, 0},
        {6, 256, 256, 0, ZERO + LESS}, {6, 32768, 2, 0, ZERO + LESS}, {6, 65535, 65535, 1, LESS},
        {6, 65535, 2, 65534, LESS}, {6, 32769, 2, 2, LESS},
        {7, 65535, 65535, 65535, 0}, {7, 65535, 0, 0, ZERO}, {7, 21845, 43690, 0, ZERO}, {7, 32769, 32768, 32768, 0},
        {8, 65535, 65535, 0, ZERO}, {8, 65535, 0, 65535, 0}, {8, 21845, 43690, 65535, 0}, {8, 0, 0, 0, ZERO},
        {9, 1, 0, 1, 0}, {9, 1, 15, 32768, 0}, {9, 1, 16, 1, 0}, {9, 1, 65535, 32768, 0}, {9, 2, 15, 0, ZERO},
        {9, 65535, 1, 65534, 0}, {9, 0, 3, 0, ZERO}, {9, 32769, 17, 2, 0},
        {10, 32768, 0, 32768, 0}, {10, 32768, 15, 1, 0}, {10, 32768, 16, 32768, 0}, {10, 65535, 65535, 1, 0},
        {10, 1, 1, 0, ZERO}, {10, 65535, 1, 32767, 0}, {10, 0, 0, 0, ZERO}, {10, 16384, 15, 0, ZERO},
        {11, 0, 0, 0, ZERO}, {11, 1, 0, 1, 0}, {11, 0, 1, 0, LESS}, {11, 65535, 65535, 65535, ZERO},
        {11, 0, 65535, 0, LESS}, {11, 65535, 0, 65535, 0}, {11, 65534, 65535, 65534, LESS}};

    private static void results() {
        for (int[] row : RESULTS) {
            // The flags are 0, and then 3, ahead of the operation.
            for (int word = 0; word < 2; word++) {
                KernelGym gym = Check.ran(4, 1, 1, 1, 65534, 4, 1, 1, 1 + word, 1, 0, 0, row[1], row[0], 0, 0, row[2]);
                String what = "operation " + row[0] + " of " + row[1] + " and " + row[2];
                Check.due(what, row[3], gym.register(0));
                Check.due(what + ", flags", row[4], gym.flags());
                Check.due(what + ", counter", 16, gym.counter());
            }
        }
    }

    private static void flagsThatStay() {
        int[] operations = {0, 1, 2, 3, 12, 13, 14, 15, 17, 18, 20, 22, 23, 24, 25, 26};
        for (int operation : operations) {
            for (int word = 0; word < 2; word++) {
                KernelGym gym = Check.ran(4, 17, 0, 0, 30, 1, 1, 1, 65534, 4, 1, 1, 1 + word, operation, 0, 0, 100);
                Check.due("flags behind operation " + operation, word == 0 ? 0 : ZERO + LESS, gym.flags());
            }
        }
        KernelGym on = Check.ran(3, 1, 1, 1, 65535, 4, 1, 1, 1, 19, 0, 0, 0);
        Check.due("flags behind interrupts on", ZERO + LESS + ON, on.flags());
        KernelGym returned = Check.ran(4, 17, 0, 0, 30, 1, 1, 1, 65535, 4, 1, 1, 1, 16, 0, 0, 0);
        Check.due("flags behind a return", ZERO + LESS, returned.flags());
    }

    /** The flags ahead of it, the operation, and whether the counter becomes y. */
    private static void jumps() {
        int[][] rows = {{0, 12, 1}, {1, 12, 1}, {2, 12, 1}, {3, 12, 1}, {0, 13, 0}, {1, 13, 1}, {2, 13, 0}, {3, 13, 1},
            {0, 14, 0}, {1, 14, 0}, {2, 14, 1}, {3, 14, 1}};
        int[][] sums = {{1, 0}, {0, 0}, {65535, 2}, {65535, 1}};
        for (int[] row : rows) {
            for (int to : new int[] {0, 254, 255, 65535}) {
                KernelGym gym = Check.ran(3, 1, 0, 0, sums[row[0]][0], 4, 0, 0, sums[row[0]][1], row[1], 1, 1, to);
                Check.due("operation " + row[1] + " with the flags " + row[0], row[2] == 1 ? to : 14, gym.counter());
            }
        }
        KernelGym wraps = Check.ran(2, 1, 1, 1, 65535, 12, 0, 1, 11);
        Check.due("a jump to a sum that wraps around", 10, wraps.counter());
    }

    /** A machine whose last instruction, at 254, is this one; it is there behind one step. */
    private static KernelGym atTheEnd(int operation, int n) {
        KernelGym gym = new KernelGym();
        Check.code(gym, 12, 0, 0, 254);
        for (int i = 0; i < 7; i++) {
            gym.space(32);
        }
        gym.space(20);
        Check.code(gym, operation, 0, 0, n);
        Check.due("a full image", 248, gym.assemble());
        gym.start();
        gym.step(1);
        return gym;
    }

    private static void lastInstruction() {
        KernelGym gym = atTheEnd(1, 77);
        gym.step(1);
        Check.due("the instruction at 254", 77, gym.register(0));
        Check.due("the counter behind it", 256, gym.counter());
        gym.step(1);
        fault("an instruction at 256", KernelGym.BAD_ADDRESS, gym, 256);
        KernelGym call = atTheEnd(15, 40);
        call.step(1);
        Check.due("the address behind the last instruction", 256, call.memory(255));
        Check.due("the counter of the call", 40, call.counter());
        for (int to : new int[] {255, 256, 65535}) {
            fault("an instruction at " + to, KernelGym.BAD_ADDRESS, Check.ran(2, 12, 0, 0, to), to);
        }
        Check.due("an instruction at 0", KernelGym.HALTED, Check.ran(2, 12, 0, 0, 0).state());
    }

    private static void stackAtItsTop() {
        fault("a pull at 256", KernelGym.BAD_STACK, Check.ran(1, 18, 0, 0, 0), 8);
        fault("a return at 256", KernelGym.BAD_STACK, Check.ran(1, 16, 0, 0, 0), 8);
        fault("a return from an interrupt at 256", KernelGym.BAD_STACK, Check.ran(1, 21, 0, 0, 0), 8);
        fault("a return from an interrupt at 255", KernelGym.BAD_STACK, Check.ran(2, 17, 0, 0, 3, 21, 0, 0, 0), 10);
        KernelGym two = Check.ran(3, 17, 0, 0, 30, 17, 0, 0, 3, 21, 0, 0, 0);
        Check.due("a return from an interrupt at 254", 256, two.stack());
        Check.due("its counter", 30, two.counter());
        KernelGym one = Check.ran(2, 17, 0, 0, 65535, 18, 2, 0, 0);
        Check.due("a pull at 255", 65535, one.register(2));
        Check.due("the stack pointer behind it", 256, one.stack());
        KernelGym back = Check.ran(2, 17, 0, 0, 65535, 16, 0, 0, 0);
        Check.due("a return at 255", 65535, back.counter());
        Check.due("the stack pointer behind that", 256, back.stack());
    }

    /**
     * A running machine whose stack pointer is this, from 0 to 15. Its loop pushes 272, until that goes over the
     * number of the jump behind it; then the jump is to 100, where all words are 272, which push 272 again.
     */
    private static KernelGym deep(int stack) {
        KernelGym gym = new KernelGym();
        gym.vector(0, NUMBER, 30);
        gym.vector(1, NUMBER, 40);
        Check.code(gym, 19, 0, 0, 0, 1, 1, 1, 65364, 17, 0, 0, 272, 12, 0, 1, 184);
        gym.assemble();
        gym.start();
        for (int i = 0; i < 4; i++) {
            gym.step(100);
        }
        gym.step(99 - stack);
        Check.due("the stack pointer goes down", stack, gym.stack());
        Check.due("without a fault", KernelGym.RUNS, gym.state());
        return gym;
    }

    private static void stackAtItsBottom() {
        KernelGym one = deep(1);
        one.step(1);
        Check.due("a push at 1", KernelGym.RUNS, one.state());
        Check.due("the stack pointer behind it", 0, one.stack());
        Check.due("the word at 0", 272, one.memory(0));
        int counter = one.counter();
        one.step(1);
        fault("a push at 0", KernelGym.BAD_STACK, one, counter);
    }

    /** Words 250 are calls to 250, once they are at 250. */
    private static void callsAtTheBottom() {
        KernelGym calls = new KernelGym();
        Check.code(calls, 17, 0, 0, 250, 12, 0, 0, 8);
        calls.assemble();
        calls.start();
        for (int i = 0; i < 5; i++) {
            calls.step(100);
        }
        Check.due("the stack pointer ahead of a call", 1, calls.stack());
        calls.step(1);
        Check.due("a call at 1", KernelGym.RUNS, calls.state());
        Check.due("its address at 0", 252, calls.memory(0));
        calls.step(1);
        fault("a call at 0", KernelGym.BAD_STACK, calls, 250);
    }

    private static void interruptAtTheBottom() {
        for (int stack = 0; stack <= 1; stack++) {
            KernelGym gym = deep(stack);
            int counter = gym.counter();
            gym.press(1);
            gym.step(1);
            Check.due("it stays pending, and interrupts on", ON + KEYS, gym.flags());
            fault("an interrupt at " + stack, KernelGym.BAD_STACK, gym, counter);
        }
        KernelGym two = deep(2);
        int counter = two.counter();
        two.press(1);
        two.step(1);
        Check.due("an interrupt at 2", KernelGym.RUNS, two.state());
        Check.due("the stack pointer behind it", 0, two.stack());
        Check.due("the counter at 1", counter, two.memory(1));
        Check.due("the flags at 0", 0, two.memory(0));
        KernelGym three = deep(3);
        counter = three.counter();
        three.press(1);
        three.step(1);
        Check.due("an interrupt at 3", 1, three.stack());
        Check.due("the counter at 2", counter, three.memory(2));
        Check.due("the flags at 1", 0, three.memory(1));
        Check.due("the word at 0 stays", 30, three.memory(0));
        Check.due("the counter becomes the word at 1, which is the flags by then", 0, three.counter());
        KernelGym four = deep(4);
        four.press(1);
        four.step(1);
        Check.due("the counter becomes the word at 1, which is the vector still", 40, four.counter());
    }

    /** The same loop as that of deep(), with a timer that is pending when the stack pointer is this. */
    private static void timerAtTheBottom() {
        for (int stack = 1; stack <= 4; stack++) {
            KernelGym gym = new KernelGym();
            gym.vector(0, NUMBER, 30);
            gym.vector(1, NUMBER, 40);
            Check.code(gym, 19, 0, 0, 0, 23, 0, 0, 497 - stack, 1, 1, 1, 65364, 17, 0, 0, 272, 12, 0, 1, 186);
            gym.assemble();
            gym.start();
            for (int steps = 498 - stack; steps > 0; steps -= 100) {
                gym.step(Math.min(steps, 100));
            }
            Check.due("the stack pointer ahead of it", stack, gym.stack());
            Check.due("the timer ahead of it", ON + TIMER, gym.flags());
            int counter = gym.counter();
            gym.step(1);
            if (stack < 2) {
                Check.due("it stays pending, and interrupts on", ON + TIMER, gym.flags());
                fault("an interrupt of the timer at " + stack, KernelGym.BAD_STACK, gym, counter);
            } else {
                Check.due("the counter that is pushed at " + stack, counter, gym.memory(stack - 1));
                Check.due("the flags that are pushed at " + stack, 0, gym.memory(stack - 2));
                Check.due("the counter becomes the word at 0 by then", stack == 2 ? 0 : 30, gym.counter());
                Check.due("the timer is not pending behind it", 0, gym.flags());
            }
        }
    }

    private static void returns() {
        for (int word : new int[] {0, 1, 2, 3, 4, 65532, 65535}) {
            KernelGym gym = Check.ran(5, 17, 0, 0, 65535, 17, 0, 0, word, 1, 1, 1, 65534, 4, 1, 1, 2 - word % 2,
                21, 0, 0, 0);
            Check.due("the flags of " + word, ON + word % 4, gym.flags());
            Check.due("the counter pulled", 65535, gym.counter());
        }
    }

    private static KernelGym bothPending(int... code) {
        KernelGym gym = new KernelGym();
        gym.vector(0, LABEL, 1);
        gym.vector(1, LABEL, 2);
        Check.code(gym, 23, 0, 0, 2);
        Check.code(gym, code);
        gym.label(1);
        Check.code(gym, 23, 0, 0, 0, 21, 0, 0, 0);
        gym.label(2);
        Check.code(gym, 1, 2, 2, 5, 21, 0, 0, 0);
        gym.assemble();
        gym.start();
        gym.press(1);
        return gym;
    }

    private static void interruptsInOrder() {
        int[][] sums = {{0, 1, 0}, {ZERO, 0, 0}, {LESS, 65535, 2}, {ZERO + LESS, 65535, 1}};
        for (int[] row : sums) {
            int flags = row[0];
            KernelGym gym = bothPending(1, 0, 0, row[1], 4, 0, 0, row[2], 19, 0, 0, 0, 1, 3, 3, 9, 0, 0, 0, 0);
            gym.step(4);
            Check.due("both are pending", flags + ON + TIMER + KEYS, gym.flags());
            gym.step(1);
            Check.due("the timer's first", 20, gym.counter());
            Check.due("only that is not pending any more, and interrupts are off", flags + KEYS, gym.flags());
            Check.due("the counter is pushed", 16, gym.memory(255));
            Check.due("then the flags", flags, gym.memory(254));
            gym.step(2);
            Check.due("the flags behind it", flags + ON + KEYS, gym.flags());
            gym.step(1);
            Check.due("the keys' then", 24, gym.counter());
            Check.due("none is pending any more", flags, gym.flags());
            Check.due("the same counter is pushed", 16, gym.memory(255));
        }
        KernelGym off = bothPending(20, 0, 0, 0, 1, 3, 3, 9, 1, 3, 3, 10, 0, 0, 0, 0);
        off.step(4);
        Check.due("interrupts that are off are not taken", 10, off.register(3));
        Check.due("they stay pending", TIMER + KEYS, off.flags());
    }

    private static void vectors() {
        for (int vector : new int[] {0, 254, 255, 65535}) {
            KernelGym gym = new KernelGym();
            gym.vector(1, NUMBER, vector);
            gym.vector(0, NUMBER, 60);
            Check.code(gym, 19, 0, 0, 0);
            gym.assemble();
            gym.start();
            gym.press(3);
            gym.step(2);
            Check.due("the vector for keys", vector, gym.counter());
            Check.due("its step fails never", KernelGym.RUNS, gym.state());
            gym.step(1);
            Check.due("the step behind it", vector > 254 ? KernelGym.BAD_ADDRESS : 0, gym.fault());
        }
        KernelGym changed = new KernelGym();
        changed.vector(0, NUMBER, 60);
        Check.code(changed, 1, 0, 0, 70, 3, 0, 0, 0, 23, 0, 0, 2, 19, 0, 0, 0);
        changed.assemble();
        changed.start();
        changed.step(5);
        Check.due("the vector is the word in the memory", 70, changed.counter());
    }

    private static void waits() {
        KernelGym gym = Check.ran(100, 22, 0, 0, 0);
        Check.due("it waits", 8, gym.counter());
        gym.press(0);
        gym.step(1);
        Check.due("up to a key", 10, gym.counter());
        Check.due("that stays pending", KEYS, gym.flags());
        KernelGym taken = new KernelGym();
        taken.vector(1, NUMBER, 60);
        Check.code(taken, 19, 0, 0, 0, 22, 0, 0, 0);
        taken.assemble();
        taken.start();
        taken.step(5);
        taken.press(0);
        taken.step(1);
        Check.due("the interrupt is taken first", 60, taken.counter());
        Check.due("it returns to the wait", 10, taken.memory(255));
    }

    private static void intervals() {
        for (int interval : new int[] {1, 2, 3, 10, 99}) {
            KernelGym gym = Check.started(23, 0, 0, interval, 12, 0, 0, 10);
            if (interval > 1) {
                gym.step(interval - 1);
            }
            Check.due("ahead of the interval " + interval, 0, gym.flags());
            gym.step(1);
            Check.due("behind the interval " + interval, TIMER, gym.flags());
        }
        KernelGym never = Check.started(23, 0, 0, 65535, 12, 0, 0, 10);
        KernelGym none = Check.started(23, 0, 0, 2, 23, 0, 0, 0, 12, 0, 0, 12);
        for (int i = 0; i < 10; i++) {
            never.step(100);
            none.step(100);
            Check.due("the highest interval", 0, never.flags());
            Check.due("an interval of 0 again", 0, none.flags());
        }
        // Interrupts of a timer each 3 steps, taken as soon as they are pending; all other steps are the handler's.
        KernelGym again = new KernelGym();
        again.vector(0, NUMBER, 14);
        Check.code(again, 23, 0, 0, 3, 19, 0, 0, 0, 12, 0, 0, 12, 21, 0, 0, 0);
        again.assemble();
        again.start();
        int[] counters = {10, 12, 12, 14, 12, 12, 14, 12, 12, 14};
        for (int i = 0; i < counters.length; i++) {
            again.step(1);
            Check.due("the counter with an interval of 3, behind " + i, counters[i], again.counter());
        }
        KernelGym reset = Check.ran(3, 23, 0, 0, 3, 23, 0, 0, 3, 1, 0, 0, 0, 1, 0, 0, 0);
        Check.due("the time is 0 by setting", 0, reset.flags());
        reset.step(1);
        Check.due("and the interval is whole", TIMER, reset.flags());
    }

    /** The time goes on in steps of a file call, in the step of an interrupt, and in one that ends the machine. */
    private static void timeOfEachStep() {
        for (int interval = 2; interval <= 7; interval++) {
            KernelGym gym = Check.started(23, 0, 0, interval, 1, 0, 0, 4, 26, 0, 0, 0);
            gym.step(interval - 1);
            Check.due("ahead of the interval in a file call", 0, gym.flags());
            gym.step(1);
            Check.due("behind the interval in a file call", TIMER, gym.flags());
        }
        Check.due("a step that halts", TIMER, Check.ran(2, 23, 0, 0, 2, 0, 0, 0, 0).flags());
        Check.due("a step that fails", TIMER, Check.ran(2, 23, 0, 0, 2, 18, 0, 0, 0).flags());
        KernelGym taken = Check.started(19, 0, 0, 0, 23, 0, 0, 2);
        taken.step(2);
        taken.press(4);
        taken.step(1);
        Check.due("a step that takes an interrupt", TIMER, taken.flags());
    }

    private static void keysRead() {
        KernelGym gym = Check.started(24, 0, 0, 0, 12, 0, 0, 8);
        gym.step(1);
        Check.due("no key", 65535, gym.register(0));
        gym.press(65535);
        gym.press(0);
        gym.press(9);
        int[] keys = {65535, 0, 9, 65535, 65535};
        for (int i = 0; i < keys.length; i++) {
            gym.step(2);
            Check.due("the key " + i, keys[i], gym.register(0));
        }
        Check.due("reading leaves the interrupt pending", KEYS, gym.flags());
        for (int key = 4; key <= 20; key++) {
            gym.press(100 + key);
        }
        for (int key = 4; key <= 20; key++) {
            gym.step(2);
            Check.due("the key " + key, 100 + key, gym.register(0));
        }
        gym.step(2);
        Check.due("no key behind 20", 65535, gym.register(0));
        gym.crash();
        gym.start();
        gym.step(1);
        Check.due("no key behind another start", 65535, gym.register(0));
        gym.press(77);
        gym.step(2);
        Check.due("the first key behind another start", 77, gym.register(0));
        for (int d = 1; d < 4; d++) {
            KernelGym other = Check.started(24, d, 0, 0);
            other.press(7);
            other.step(1);
            Check.due("a key in register " + d, 7, other.register(d));
        }
    }

    /** A key that was told for the number of steps behind which the machine ends another time comes then, too. */
    private static void keysComeBehindTheEnd() {
        for (int word : new int[] {0, 27 * 16}) {
            KernelGym gym = new KernelGym();
            gym.vector(1, LABEL, 1);
            Check.code(gym, 19, 0, 0, 0, 12, 0, 0, 10);
            gym.label(1);
            Check.code(gym, 24, 0, 0, 0);
            gym.word(NUMBER, word);
            gym.assemble();
            gym.start();
            gym.step(4);
            gym.press(5);
            gym.back(4);
            gym.press(6);
            Check.due("it ends behind 4 steps", 4, gym.step(100));
            Check.due("how it ends", word == 0 ? KernelGym.HALTED : KernelGym.FAULTED, gym.state());
            Check.due("the key comes behind it", KEYS, gym.flags());
        }
    }

    private static void operations() {
        for (int word : new int[] {26 * 16, 26 * 16 + 15}) {
            KernelGym gym = ofWord(word);
            Check.due("the word " + word, KernelGym.RUNS, gym.state());
            Check.due("a file call above 6", 9, gym.register(3));
        }
        for (int word : new int[] {27 * 16, 27 * 16 + 15, 32768, 65535}) {
            fault("the word " + word, KernelGym.BAD_OPERATION, ofWord(word), 8);
        }
        for (int word = 0; word < 16; word++) {
            Check.due("the word " + word, KernelGym.HALTED, ofWord(word).state());
        }
    }

    private static KernelGym ofWord(int word) {
        KernelGym gym = new KernelGym();
        gym.word(NUMBER, word);
        gym.word(NUMBER, 7);
        gym.assemble();
        gym.start();
        gym.step(1);
        return gym;
    }

    /** A machine that puts its steps on the tape, each second one; its tape has this many words. */
    private static KernelGym tape(int words) {
        KernelGym gym = Check.started(25, 1, 0, 65535, 4, 0, 0, 65535, 12, 0, 0, 8);
        for (int i = 0; i < words; i++) {
            gym.step(3);
        }
        return gym;
    }

    private static void fullTape() {
        KernelGym gym = tape(59);
        Check.due("59 words", 59, gym.tape());
        gym.step(1);
        Check.due("60 words", 60, gym.tape());
        Check.due("the last word", 65535 - 59, gym.tapeAt(59));
        gym.step(2);
        Check.due("no fault up to there", KernelGym.RUNS, gym.state());
        gym.step(1);
        fault("the 61st word", KernelGym.TAPE_FULL, gym, 8);
        Check.due("the tape stays", 60, gym.tape());
    }

    private static void start() {
        Check.promise(16);
        Edges.untimely("nothing was assembled", Edges::lines100, gym -> gym.start());
        Edges.untimely("it RUNS", Edges::running, gym -> gym.start());
        Edges.untimely("it is HALTED", Edges::halted, gym -> gym.start());
        Edges.untimely("it is FAULTED", Edges::faulted, gym -> gym.start());
        Edges.untimely("in a file call", Edges::calling, gym -> gym.start());
        Check.due("nothing to mend", 0, Edges.assembled().start());
        KernelGym gym = Edges.crashed();
        int written = gym.written();
        Check.due("a block and the head", 2, gym.start());
        Check.due("they count as written", written + 2, gym.written());
        gym.crash();
        Check.due("nothing to mend any more", 0, gym.start());
        Check.due("no blocks written by that", written + 2, gym.written());
    }

    private static void crash() {
        Check.promise(17);
        Edges.untimely("a new machine", KernelGym::new, gym -> gym.crash());
        Edges.untimely("a machine that crashed", Edges::crashed, gym -> gym.crash());
        KernelGym gym = Edges.assembled();
        gym.start();
        Check.due("no steps", 0, gym.crash());
        gym.start();
        gym.step(5);
        gym.back(2);
        Check.due("steps taken back do not count", 3, gym.crash());
        Check.due("a HALTED machine", 4, Edges.halted().crash());
        Check.due("a FAULTED machine", 4, Edges.faulted().crash());
        Check.due("a file call", 5, Edges.calling().crash());
        KernelGym most = looping(1000);
        Check.due("1000 steps", 1000, most.crash());
        most.start();
        Check.due("none of them since the next start", 0, most.crash());
    }

    /** A machine that runs on, behind this many steps. */
    private static KernelGym looping(int steps) {
        KernelGym gym = Check.started(4, 0, 0, 1, 12, 0, 0, 8);
        for (int left = steps; left > 0; left -= 100) {
            gym.step(Math.min(left, 100));
        }
        return gym;
    }

    private static void step() {
        Check.promise(19);
        for (int steps : new int[] {1, 100}) {
            Check.due("steps", steps, looping(0).step(steps));
        }
        for (int bad : new int[] {-1, 0, 101, Integer.MIN_VALUE, Integer.MAX_VALUE}) {
            Edges.outside("steps " + bad, Edges::running, gym -> gym.step(bad));
            Edges.outside("steps " + bad + " while OFF", Edges::crashed, gym -> gym.step(bad));
        }
        Edges.untimely("OFF", Edges::crashed, gym -> gym.step(1));
        Edges.untimely("a new machine", KernelGym::new, gym -> gym.step(100));
        Check.due("HALTED", 0, Edges.halted().step(1));
        Check.due("FAULTED", 0, Edges.faulted().step(100));
        Check.due("up to the step that halts", 3, Check.started(1, 0, 0, 0, 1, 0, 0, 0, 0, 0, 0, 0).step(100));
        Check.due("up to the step that fails", 2, Check.started(1, 0, 0, 0, 18, 0, 0, 0).step(2));
        Check.due("999 steps and one", 1, looping(999).step(100));
        KernelGym most = looping(1000);
        Check.due("1000 steps and none", 0, most.step(100));
        Check.due("it runs", KernelGym.RUNS, most.state());
        most.back(7);
        Check.due("steps that were taken back", 7, most.step(100));
    }

    private static void runTo() {
        Check.promise(20);
        Edges.range("address", 0, 255, 100, () -> looping(0), (gym, number) -> gym.runTo(number, 100));
        for (int bad : new int[] {-1, 0, 101, Integer.MIN_VALUE, Integer.MAX_VALUE}) {
            Edges.outside("steps " + bad, Edges::running, gym -> gym.runTo(8, bad));
        }
        Edges.outside("the address 256 while OFF", Edges::crashed, gym -> gym.runTo(256, 1));
        Edges.outside("101 steps while OFF", Edges::crashed, gym -> gym.runTo(255, 101));
        Edges.untimely("OFF", Edges::crashed, gym -> gym.runTo(0, 1));
        Check.due("an address that is never there, one step", 1, looping(0).runTo(255, 1));
        Check.due("the address where it is needs steps", 2, looping(0).runTo(8, 100));
        Check.due("no more steps than there may be", 1, looping(0).runTo(8, 1));
        Check.due("just as many", 2, looping(0).runTo(8, 2));
        Check.due("the address 0", 1, Check.started(12, 0, 0, 0).runTo(0, 100));
        Check.due("the address 255", 1, Check.started(12, 0, 0, 255).runTo(255, 100));
        Check.due("a counter of 256 is no address", 2, Check.started(12, 0, 0, 256).runTo(0, 100));
        Check.due("HALTED where it is", 0, Edges.halted().runTo(Edges.halted().counter(), 100));
        Check.due("FAULTED where it is", 0, Edges.faulted().runTo(14, 100));
        Check.due("the step that halts there", 1, Check.started(0, 0, 0, 0).runTo(8, 100));
        Check.due("1000 steps", 0, looping(1000).runTo(8, 100));
        Check.due("the 1000th step", 1, looping(999).runTo(255, 100));
        KernelGym file = Check.started(1, 0, 0, 4, 26, 0, 0, 0, 26, 0, 0, 1, 0, 0, 0, 0);
        Check.due("a step to a file call", 1, file.runTo(10, 100));
        Check.due("the counter stays in it", 5, file.runTo(12, 100));
        Check.due("and a call goes on up to the next address", 9, file.runTo(14, 100));
        KernelGym inCall = Check.ran(2, 1, 0, 0, 4, 26, 0, 0, 0, 0, 0, 0, 0);
        Check.due("the counter is there, but a call goes on", 5, inCall.runTo(10, 100));
        Check.due("until the machine halts", KernelGym.HALTED, inCall.state());
    }

    private static KernelGym pressed(int keys) {
        KernelGym gym = looping(10);
        for (int i = 0; i < keys; i++) {
            gym.press(i);
        }
        return gym;
    }

    private static void press() {
        Check.promise(22);
        Edges.range("key", 0, 65535, 1, () -> looping(3), (gym, number) -> gym.press(number));
        Edges.range("the 20th key", 0, 65535, 20, () -> pressed(19), (gym, number) -> gym.press(number));
        Edges.untimely("the 21st key", () -> pressed(20), gym -> gym.press(0));
        Edges.outside("the 21st key out of range", () -> pressed(20), gym -> gym.press(65536));
        Edges.Maker[] makers = {KernelGym::new, Edges::crashed, Edges::halted, Edges::faulted};
        for (Edges.Maker maker : makers) {
            Edges.untimely("it does not RUN", maker, gym -> gym.press(1));
            Edges.outside("it does not RUN, out of range", maker, gym -> gym.press(-1));
        }
        KernelGym gym = pressed(20);
        gym.back(1);
        Check.untimely(gym, "keys that have not come count", () -> gym.press(1));
        gym.crash();
        gym.start();
        Check.due("a key since the next start", 1, gym.press(1));
        KernelGym most = looping(1000);
        Check.due("a key behind 1000 steps", 1, most.press(1));
        Check.due("it comes", KEYS, most.flags());
        KernelGym first = looping(0);
        first.press(1);
        Check.due("a key behind no steps comes at once", KEYS, first.flags());
        KernelGym calling = Edges.calling();
        Check.due("a key in a file call", 1, calling.press(1));
        Check.due("it comes at once", ON + KEYS, calling.flags());
    }

    /** Keys come behind those for fewer steps, and those told earlier for the same number. */
    private static void pressInOrder() {
        KernelGym gym = Check.started(4, 1, 1, 1, 11, 1, 1, 20, 14, 0, 0, 8, 24, 0, 0, 0, 25, 1, 0, 0,
            12, 0, 0, 14);
        gym.step(20);
        gym.press(1);
        gym.press(2);
        gym.back(10);
        gym.press(3);
        gym.back(1);
        gym.press(4);
        gym.back(9);
        Check.due("so many keys", 5, gym.press(5));
        gym.step(10);
        gym.press(6);
        gym.step(100);
        // 5 for 0 steps, 4 for 9, 3 and 6 for 10, 1 and 2 for 20
        int[] due = {5, 4, 3, 6, 1, 2};
        for (int i = 0; i < due.length; i++) {
            Check.due("the key " + i, due[i], gym.tapeAt(i));
        }
    }

    private static void stateAndFault() {
        Edges.Maker[] makers = {KernelGym::new, Edges::crashed, Edges::running, Edges::calling, Edges::halted,
            Edges::faulted};
        int[] states = {KernelGym.OFF, KernelGym.OFF, KernelGym.RUNS, KernelGym.RUNS, KernelGym.HALTED,
            KernelGym.FAULTED};
        for (int i = 0; i < makers.length; i++) {
            Check.promise(23);
            Check.due("state " + i, states[i], makers[i].make().state());
            Check.promise(24);
            Check.due("fault " + i, i == 5 ? KernelGym.BAD_STACK : 0, makers[i].make().fault());
        }
        KernelGym[] gyms = {Check.ran(1, 2, 0, 0, 256), ofWord(27 * 16), Check.ran(1, 18, 0, 0, 0), tape(61)};
        for (int i = 0; i < gyms.length; i++) {
            Check.due("the fault", KernelGym.BAD_ADDRESS + i, gyms[i].fault());
            gyms[i].back(1);
            Check.due("no fault ahead of it", 0, gyms[i].fault());
            gyms[i].step(1);
            gyms[i].crash();
            Check.due("no fault while OFF", 0, gyms[i].fault());
        }
    }

    private static void stepsAndCounter() {
        Check.promise(25);
        Check.due("a new machine's steps", 0, new KernelGym().steps());
        Check.due("a started machine's steps", 0, looping(0).steps());
        Check.due("999 steps", 999, looping(999).steps());
        Check.due("1000 steps", 1000, looping(1000).steps());
        Check.due("steps while OFF", 0, Edges.crashed().steps());
        Check.due("a step that fails counts", 4, Edges.faulted().steps());
        Check.due("a step that halts counts", 4, Edges.halted().steps());
        Check.promise(27);
        Check.due("a new machine's counter", 0, new KernelGym().counter());
        Check.due("a started machine's counter", 8, looping(0).counter());
        Check.due("the highest counter", 65535, Check.ran(1, 12, 0, 0, 65535).counter());
        Check.due("the counter 0", 0, Check.ran(1, 12, 0, 0, 0).counter());
        Check.due("the counter while OFF", 0, Edges.crashed().counter());
        Check.promise(28);
        Check.due("a new machine's stack pointer", 0, new KernelGym().stack());
        Check.due("a started machine's stack pointer", 256, looping(0).stack());
        Check.due("the stack pointer behind a push", 255, Check.ran(1, 17, 0, 0, 0).stack());
        Check.due("the lowest stack pointer", 0, deep(0).stack());
        Check.due("the stack pointer while OFF", 0, Edges.crashed().stack());
    }

    private static void flags() {
        Check.promise(29);
        Check.due("no flag", 0, looping(0).flags());
        Check.due("zero", 1, Check.ran(1, 4, 0, 0, 0).flags());
        Check.due("less", 2, Check.ran(1, 5, 0, 0, 1).flags());
        Check.due("interrupts on", 4, Check.ran(1, 19, 0, 0, 0).flags());
        Check.due("interrupts off", 0, Check.ran(2, 19, 0, 0, 0, 20, 0, 0, 0).flags());
        Check.due("the timer's", 8, Check.ran(1, 23, 0, 0, 1).flags());
        KernelGym key = looping(0);
        key.press(0);
        Check.due("the keys'", 16, key.flags());
        KernelGym all = Check.ran(4, 1, 0, 0, 65535, 4, 0, 0, 1, 23, 0, 0, 2, 19, 0, 0, 0);
        all.press(0);
        Check.due("all", 31, all.flags());
        all.crash();
        Check.due("none while OFF", 0, all.flags());
    }

    private static void writesLeft() {
        Check.promise(30);
        Check.due("a new machine", 0, new KernelGym().writesLeft());
        KernelGym gym = Check.started(1, 0, 0, 4, 26, 0, 0, 0, 1, 1, 1, 9, 26, 0, 0, 1, 26, 0, 0, 1, 26, 0, 0, 3);
        int[] left = {0, 4, 3, 2, 1, 0, 0, 8, 7, 6, 5, 4, 3, 2, 1, 0, 6, 5, 4, 3, 2, 1, 0, 0};
        for (int i = 0; i < left.length; i++) {
            gym.step(1);
            Check.due("behind the step " + i, left[i], gym.writesLeft());
        }
        for (int i = left.length - 2; i >= 0; i--) {
            gym.back(1);
            Check.due("back behind the step " + i, left[i], gym.writesLeft());
        }
        KernelGym calling = Edges.calling();
        Check.due("in a call", 3, calling.writesLeft());
        calling.crash();
        Check.due("while OFF", 0, calling.writesLeft());
        calling.start();
        Check.due("the call does not go on behind a start", 0, calling.writesLeft());
    }

    private static void registersAndMemory() {
        KernelGym gym = new KernelGym();
        gym.vector(0, NUMBER, 3);
        Check.code(gym, 1, 0, 0, 11, 1, 1, 1, 12, 1, 2, 2, 13, 1, 3, 3, 65535, 17, 0, 3, 0);
        gym.assemble();
        gym.start();
        gym.step(5);
        Check.promise(31);
        int[] registers = {11, 12, 13, 65535};
        for (int i = 0; i < 4; i++) {
            Check.due("register " + i, registers[i], gym.register(i));
        }
        Check.promise(32);
        Check.due("the address 0", 3, gym.memory(0));
        Check.due("the address 255", 65535, gym.memory(255));
        for (int bad : new int[] {-1, 256, Integer.MIN_VALUE, Integer.MAX_VALUE}) {
            Check.promise(31);
            int register = bad == 256 ? 4 : bad;
            Edges.outside("register " + register, Edges::running, other -> other.register(register));
            Edges.outside("register " + register + " while OFF", KernelGym::new, other -> other.register(register));
            Check.promise(32);
            Edges.outside("the address " + bad, Edges::running, other -> other.memory(bad));
            Edges.outside("the address " + bad + " while OFF", KernelGym::new, other -> other.memory(bad));
        }
    }

    private static void tapeAt() {
        for (int words : new int[] {0, 1, 59, 60}) {
            Check.promise(34);
            Check.due("so many words", words, tape(words).tape());
            Check.promise(35);
            for (int bad : new int[] {-1, words, words + 1, 60, Integer.MIN_VALUE, Integer.MAX_VALUE}) {
                Edges.beyond("the word " + bad + " of " + words, () -> tape(words), gym -> gym.tapeAt(bad));
            }
            KernelGym gym = tape(words);
            for (int i = 0; i < words; i++) {
                Check.due("the word " + i, 65535 - i, gym.tapeAt(i));
            }
        }
        KernelGym off = tape(3);
        off.crash();
        Check.promise(34);
        Check.due("no words while OFF", 0, off.tape());
        Check.promise(35);
        Edges.beyond("a word while OFF", Edges::crashed, gym -> gym.tapeAt(0));
    }

    private static void sum() {
        Check.promise(36);
        Check.due("a new machine", Edges.sumOf(KernelGym::new, 0, 0), new KernelGym().sum());
        Check.due("OFF, with files", Edges.sumOf(Edges::crashed, 0, 0), Edges.crashed().sum());
        Check.due("a started machine", Edges.sumOf(() -> looping(0), 0, 0), looping(0).sum());
        Check.due("HALTED", Edges.sumOf(Edges::halted, 0, 0), Edges.halted().sum());
        Check.due("FAULTED", Edges.sumOf(Edges::faulted, 0, 0), Edges.faulted().sum());
        Check.due("in a file call", Edges.sumOf(Edges::calling, 7, 5), Edges.calling().sum());
        Check.due("an empty tape", Edges.sumOf(() -> tape(0), 0, 0), tape(0).sum());
        Check.due("a full tape", Edges.sumOf(() -> tape(60), 0, 0), tape(60).sum());
        for (int steps = 0; steps <= 4; steps++) {
            int made = steps;
            Edges.Maker timer = () -> {
                KernelGym gym = Check.started(23, 0, 0, 3, 12, 0, 0, 10);
                if (made > 0) {
                    gym.step(made);
                }
                return gym;
            };
            Check.due("the time behind " + steps, Edges.sumOf(timer, steps == 0 ? 0 : 3, steps % 3), timer.make().sum());
        }
        Check.due("the highest words", Edges.sumOf(EdgesOfMachineTest::highWords, 65535, 6), highWords().sum());
    }

    private static KernelGym highWords() {
        return Check.ran(6, 23, 0, 0, 65535, 1, 0, 0, 65535, 1, 1, 1, 65535, 1, 2, 2, 65535, 1, 3, 3, 65535,
            3, 0, 0, 255);
    }
}
