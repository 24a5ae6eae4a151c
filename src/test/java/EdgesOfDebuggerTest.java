/** The boundary cases that the document names under DEBUGGER, in the promises 21, 26, 33 and 37, and of 512 calls. */
public final class EdgesOfDebuggerTest {
    private static final int NUMBER = KernelGym.NUMBER;
    private static final int KEYS = 16;

    public static void main(String[] args) {
        Check.about("DEBUGGER");
        stepsBack();
        stepsBackFromLater();
        stepsBackOverFlags();
        stepsBackOverKeys();
        stepsBackOver200();
        whatStays();
        keyAtItsStep();
        keyAtNoSteps();
        keyThatWasTaken();
        keyThatWasRead();
        back();
        kept();
        changedAt();
        changedByOperations();
        changedAtWhileKept();
        sumAnew();
        sumAnewWithKeys();
        sumAnewFromStart();
        Check.about("What it is");
        call512();
        Check.namesPromises(21, 21);
        Check.namesPromises(26, 26);
        Check.namesPromises(33, 33);
        Check.namesPromises(37, 37);
        Check.end();
    }

    private static void stepAll(KernelGym gym, int steps) {
        for (int left = steps; left > 0; left -= 100) {
            gym.step(Math.min(left, 100));
        }
    }

    /** A machine with files, a timer, the stack and the tape, behind this many steps. */
    private static KernelGym busy(int steps) {
        KernelGym gym = Edges.assembled();
        gym.start();
        stepAll(gym, steps);
        return gym;
    }

    private static KernelGym looping(int steps) {
        KernelGym gym = Check.started(4, 0, 0, 1, 12, 0, 0, 8);
        stepAll(gym, steps);
        return gym;
    }

    /** Behind steps that were taken back, all is as behind those alone that were not. */
    private static void stepsBack() {
        for (int steps = 1; steps <= 90; steps++) {
            for (int taken : new int[] {1, 2, steps}) {
                KernelGym gym = busy(steps);
                int back = Math.min(taken, steps);
                Check.due("steps taken back", back, gym.back(back));
                Check.same("all behind " + steps + " steps and " + back + " back", Edges.traceOf(busy(steps - back)),
                    Edges.traceOf(gym));
            }
        }
        KernelGym halted = Edges.halted();
        Check.due("the step that halts", 1, halted.back(1));
        Check.due("it runs ahead of it", KernelGym.RUNS, halted.state());
        KernelGym faulted = Edges.faulted();
        Check.due("the step that fails", 1, faulted.back(1));
        Check.due("it runs ahead of that", KernelGym.RUNS, faulted.state());
    }

    /** Back from step 70, behind file calls of one, three and two blocks, to each step, also in these calls. */
    private static void stepsBackFromLater() {
        for (int to = 0; to < 70; to++) {
            KernelGym gym = busy(70);
            gym.back(70 - to);
            Check.same("all behind " + to + " steps, from 70", Edges.traceOf(busy(to)), Edges.traceOf(gym));
        }
    }

    /** A machine that sets and clears each flag, register and what else a step may change. */
    private static KernelGym changing(int steps) {
        KernelGym gym = new KernelGym();
        gym.vector(0, NUMBER, 50);
        gym.vector(1, NUMBER, 50);
        Check.code(gym, 4, 0, 0, 0, 5, 1, 1, 1, 4, 1, 1, 2, 6, 2, 1, 3, 11, 2, 2, 0, 5, 3, 3, 65535, 23, 0, 0, 4,
            19, 0, 0, 0, 1, 3, 0, 9, 20, 0, 0, 0, 22, 0, 0, 0, 19, 0, 0, 0, 17, 0, 1, 4, 3, 1, 1, 70, 3, 2, 2, 255,
            15, 0, 0, 44, 20, 0, 0, 0, 0, 0, 0, 0, 25, 1, 0, 5, 23, 0, 0, 0, 16, 0, 0, 0, 21, 0, 0, 0);
        gym.assemble();
        gym.start();
        gym.press(3);
        stepAll(gym, steps);
        return gym;
    }

    private static void stepsBackOverFlags() {
        int end = changing(100).steps();
        Check.due("it halts", KernelGym.HALTED, changing(100).state());
        for (int steps = 1; steps <= end; steps++) {
            for (int to = 0; to < steps; to++) {
                KernelGym gym = changing(steps);
                gym.back(steps - to);
                Check.due("flags behind " + to, changing(to).flags(), gym.flags());
                Check.same("all behind " + to + " steps, from " + steps, Edges.traceOf(changing(to)),
                    Edges.traceOf(gym));
            }
        }
    }

    private static KernelGym pressedAt(int steps, int more, int back) {
        KernelGym gym = busy(steps);
        gym.press(41);
        gym.press(42);
        stepAll(gym, more);
        if (more + back > 0) {
            gym.back(more + back);
        }
        return gym;
    }

    private static void stepsBackOverKeys() {
        for (int more = 1; more <= 60; more += 3) {
            for (int back = 0; back <= 4; back++) {
                Check.same("all behind " + more + " steps, and back to " + back + " ahead of two keys",
                    Edges.traceOf(pressedAt(20, 0, back)), Edges.traceOf(pressedAt(20, more, back)));
            }
        }
    }

    /** The number of kept steps is another one, but the machine is the same. */
    private static void stepsBackOver200() {
        for (int steps : new int[] {199, 200, 201, 350}) {
            KernelGym gym = busy(steps);
            int back = Math.min(200, steps);
            Check.due("as many as are kept", back, gym.back(200));
            Check.due("the sum behind " + steps, busy(steps - back).sum(), gym.sum());
            Check.due("blocks written", busy(steps - back).written(), gym.written());
            stepAll(gym, back);
            Check.due("the sum when they are made again", busy(steps).sum(), gym.sum());
        }
    }

    private static void whatStays() {
        KernelGym gym = busy(40);
        gym.press(3);
        gym.testKey(3);
        gym.testWord(11);
        gym.addTest(200, 100, 9, 0);
        gym.testKey(4);
        gym.testWord(5);
        gym.submit();
        int lines = gym.lines();
        gym.clear();
        gym.word(NUMBER, 12345);
        gym.assemble();
        gym.word(NUMBER, 1);
        gym.press(4);
        int result = gym.result(0);
        Check.due("steps back", 40, gym.back(200));
        Check.holds("there were lines", lines > 2);
        Check.due("lines stay", 2, gym.lines());
        Check.due("the image stays", 12345, gym.image(8));
        Check.due("the image has no more words", 0, gym.image(9));
        Check.due("tests stay", 1, gym.tests());
        Check.due("results stay", result, gym.result(0));
        Check.due("the draft's keys stay", 2, gym.testKey(1));
        Check.due("the draft's words stay", 2, gym.testWord(1));
        Check.due("keys stay", 3, gym.press(5));
    }

    private static void keyAtItsStep() {
        for (int steps : new int[] {1, 2, 50, 200, 999, 1000}) {
            KernelGym gym = looping(steps);
            Check.due("no key has come", 0, gym.flags());
            gym.press(7);
            Check.due("it comes at once", KEYS, gym.flags());
            gym.back(1);
            Check.due("it has not come one step ahead", 0, gym.flags());
            gym.step(1);
            Check.due("it comes again when as many are made", KEYS, gym.flags());
            gym.step(3);
            gym.back(gym.steps() - steps + 1);
            Check.due("it has not come one step ahead, again", 0, gym.flags());
            gym.step(1);
            Check.due("it comes again, again", KEYS, gym.flags());
        }
        KernelGym just = looping(30);
        just.press(7);
        just.step(5);
        just.back(5);
        Check.due("just as many steps as it was told for", KEYS, just.flags());
    }

    private static void keyAtNoSteps() {
        KernelGym gym = looping(0);
        gym.press(7);
        gym.step(9);
        Check.due("all steps back", 9, gym.back(200));
        Check.due("a key that was told for no steps has come", KEYS, gym.flags());
        Check.due("a second one", 2, gym.press(8));
        KernelGym later = looping(9);
        later.press(7);
        later.back(9);
        Check.due("a key that was told for 9 steps has not come", 0, later.flags());
        later.step(8);
        Check.due("nor behind 8 steps", 0, later.flags());
        later.step(1);
        Check.due("but behind 9", KEYS, later.flags());
    }

    /** When a key comes again, an interrupt of keys is pending again, whatever became of it the first time. */
    private static void keyThatWasTaken() {
        KernelGym gym = new KernelGym();
        gym.vector(1, NUMBER, 12);
        Check.code(gym, 19, 0, 0, 0, 12, 0, 0, 10, 4, 1, 1, 1, 21, 0, 0, 0);
        gym.assemble();
        gym.start();
        gym.step(5);
        gym.press(9);
        Check.due("pending", 4 + KEYS, gym.flags());
        gym.step(4);
        Check.due("the handler was there", 1, gym.register(1));
        Check.due("not pending any more", 4, gym.flags());
        gym.back(5);
        Check.due("not there yet", 4, gym.flags());
        gym.step(1);
        Check.due("pending again", 4 + KEYS, gym.flags());
        gym.step(4);
        Check.due("the handler was there again", 1, gym.register(1));
        gym.press(9);
        gym.step(4);
        Check.due("a key at another time", 2, gym.register(1));
        gym.back(9);
        gym.step(9);
        Check.due("both of them again", 2, gym.register(1));
    }

    private static void keyThatWasRead() {
        KernelGym gym = Check.started(24, 0, 0, 0, 12, 0, 0, 8);
        gym.step(2);
        gym.press(5);
        gym.step(1);
        Check.due("the key is read", 5, gym.register(0));
        gym.back(1);
        Check.due("it was not read", 65535, gym.register(0));
        gym.press(6);
        gym.step(1);
        Check.due("it is read again, ahead of another", 5, gym.register(0));
        gym.back(2);
        gym.press(4);
        gym.step(2);
        Check.due("a key that was told for fewer steps is read first", 4, gym.register(0));
        gym.step(2);
        Check.due("then the key again", 5, gym.register(0));
        gym.step(2);
        Check.due("and the other", 6, gym.register(0));
        gym.step(2);
        Check.due("and none", 65535, gym.register(0));
    }

    private static void back() {
        Check.promise(21);
        Check.due("one step", 1, looping(300).back(1));
        Check.due("200 steps", 200, looping(300).back(200));
        Check.due("200 of 200 steps", 200, looping(200).back(200));
        Check.due("199 of 199 steps", 199, looping(199).back(200));
        Check.due("one of one step", 1, looping(1).back(2));
        Check.due("none of none", 0, looping(0).back(1));
        for (int bad : new int[] {-1, 0, 201, Integer.MIN_VALUE, Integer.MAX_VALUE}) {
            Edges.outside("steps " + bad, Edges::running, gym -> gym.back(bad));
            Edges.outside("steps " + bad + " while OFF", Edges::crashed, gym -> gym.back(bad));
        }
        Edges.untimely("OFF", Edges::crashed, gym -> gym.back(1));
        Edges.untimely("a new machine", KernelGym::new, gym -> gym.back(200));
        KernelGym gym = looping(300);
        Check.due("the first 150", 150, gym.back(150));
        Check.due("the 50 that are left", 50, gym.back(51));
        Check.due("none is left", 0, gym.back(1));
        Check.due("the steps ahead of them", 100, gym.steps());
        Check.due("the register ahead of them", 50, gym.register(0));
        Check.due("HALTED", 4, Edges.halted().back(200));
        Check.due("FAULTED", 4, Edges.faulted().back(200));
    }

    private static void kept() {
        Check.promise(26);
        int[][] rows = {{0, 0}, {1, 1}, {199, 199}, {200, 200}, {201, 200}, {999, 200}, {1000, 200}};
        for (int[] row : rows) {
            Check.due("behind " + row[0], row[1], looping(row[0]).kept());
        }
        Check.due("a new machine", 0, new KernelGym().kept());
        Check.due("OFF", 0, Edges.crashed().kept());
        KernelGym gym = looping(250);
        gym.back(60);
        Check.due("steps back", 140, gym.kept());
        gym.step(59);
        Check.due("steps again", 199, gym.kept());
        gym.step(1);
        Check.due("as many as may be", 200, gym.kept());
        gym.step(1);
        Check.due("and one more", 200, gym.kept());
        gym.crash();
        gym.start();
        Check.due("none since the start", 0, gym.kept());
        Check.due("none can be taken back", 0, gym.back(200));
    }

    private static void changedAt() {
        Check.promise(33);
        KernelGym gym = Check.ran(6, 3, 0, 0, 0, 3, 0, 0, 255, 1, 0, 0, 5, 3, 0, 0, 0, 3, 0, 0, 100, 3, 0, 0, 100);
        Check.due("the address 0", 3, gym.changedAt(0));
        Check.due("the address 255, by the same word", 1, gym.changedAt(255));
        Check.due("the latest of two, by the same word", 5, gym.changedAt(100));
        Check.due("an address that only the start has set", -1, gym.changedAt(8));
        gym.back(1);
        Check.due("the one before", 4, gym.changedAt(100));
        gym.back(3);
        Check.due("the first step", -1, gym.changedAt(100) + gym.changedAt(0));
        gym.back(2);
        Check.due("none", -3, gym.changedAt(0) + gym.changedAt(100) + gym.changedAt(255));
        for (int bad : new int[] {-1, 256, Integer.MIN_VALUE, Integer.MAX_VALUE}) {
            Edges.outside("the address " + bad, Edges::running, other -> other.changedAt(bad));
            Edges.outside("the address " + bad + " while OFF", KernelGym::new, other -> other.changedAt(bad));
        }
        Check.due("OFF", -1, Edges.crashed().changedAt(255));
        Check.due("a new machine", -1, new KernelGym().changedAt(0));
    }

    private static void changedByOperations() {
        KernelGym gym = new KernelGym();
        gym.vector(1, NUMBER, 22);
        Check.code(gym, 17, 0, 0, 1, 15, 0, 0, 12, 18, 0, 0, 0, 1, 1, 1, 3, 1, 0, 0, 4, 26, 0, 0, 0, 19, 0, 0, 0);
        gym.assemble();
        gym.start();
        gym.step(3);
        Check.due("a push", 0, gym.changedAt(255));
        Check.due("a call; a pull has not written", 1, gym.changedAt(254));
        gym.step(2 + 5);
        for (int address = 0; address < 254; address++) {
            Check.due("a file call writes no memory", -1, gym.changedAt(address));
        }
        gym.step(1);
        gym.press(1);
        gym.step(1);
        Check.due("an interrupt writes the counter", 11, gym.changedAt(254));
        Check.due("and the flags", 11, gym.changedAt(253));
        Check.due("not the word above", 0, gym.changedAt(255));
        Check.due("a load", -1, Check.ran(1, 2, 0, 0, 100).changedAt(100));
        Check.due("a push that fails", -1, Check.ran(1, 18, 0, 0, 0).changedAt(255));
        KernelGym fails = Check.ran(2, 17, 0, 0, 1, 3, 0, 0, 256);
        Check.due("a word that is not written, but one before", 0, fails.changedAt(255));
        Check.due("a word that is not written", -1, fails.changedAt(0));
    }

    private static void changedAtWhileKept() {
        KernelGym gym = Check.started(3, 0, 0, 100, 12, 0, 0, 10);
        stepAll(gym, 200);
        Check.due("the earliest of 200", 0, gym.changedAt(100));
        gym.step(1);
        Check.due("it is not kept any more", -1, gym.changedAt(100));
        gym.back(1);
        Check.due("nor when the latest one is taken back", -1, gym.changedAt(100));
        KernelGym later = Check.started(12, 0, 0, 10, 3, 0, 0, 100, 12, 0, 0, 12);
        stepAll(later, 201);
        Check.due("the earliest of 200 of 201", 1, later.changedAt(100));
        later.step(1);
        Check.due("not any more then", -1, later.changedAt(100));
    }

    private static void sumAnew() {
        Check.promise(37);
        for (int bad : new int[] {-1, 31, Integer.MIN_VALUE, Integer.MAX_VALUE}) {
            Edges.outside("steps " + bad, () -> busy(30), gym -> gym.sumAnew(bad));
            Edges.untimely("steps " + bad + " while OFF", Edges::crashed, gym -> gym.sumAnew(bad));
        }
        Edges.untimely("OFF", Edges::crashed, gym -> gym.sumAnew(0));
        Edges.untimely("a new machine", KernelGym::new, gym -> gym.sumAnew(0));
        Edges.outside("one of no steps", () -> busy(0), gym -> gym.sumAnew(1));
        Edges.outside("steps that were taken back", EdgesOfDebuggerTest::taken5, gym -> gym.sumAnew(26));
        Check.due("as many as were not taken back", taken5().sum(), taken5().sumAnew(25));
        Check.due("no steps of none", busy(0).sum(), busy(0).sumAnew(0));
        for (int steps = 0; steps <= 120; steps++) {
            Check.due("behind " + steps, busy(steps).sum(), busy(120).sumAnew(steps));
        }
        for (int steps : new int[] {0, 1, 799, 800, 801, 999, 1000}) {
            Check.due("behind " + steps + " of 1000", looping(steps).sum(), looping(1000).sumAnew(steps));
        }
        Check.due("HALTED", Edges.halted().sum(), Edges.halted().sumAnew(4));
        Check.due("FAULTED", Edges.faulted().sum(), Edges.faulted().sumAnew(4));
        Check.due("ahead of a halt", busyHalt(3).sum(), Edges.halted().sumAnew(3));
    }

    private static KernelGym taken5() {
        KernelGym gym = busy(30);
        gym.back(5);
        return gym;
    }

    private static KernelGym busyHalt(int steps) {
        KernelGym gym = Edges.halted();
        gym.back(4 - steps);
        return gym;
    }

    private static void sumAnewWithKeys() {
        KernelGym gym = looping(10);
        int ahead = gym.sum();
        gym.press(5);
        Check.holds("a key changes the sum", ahead != gym.sum());
        Check.due("the key has come by then", gym.sum(), gym.sumAnew(10));
        gym.step(20);
        int sum = gym.sum();
        Check.due("the key came on the way", sum, gym.sumAnew(30));
        gym.back(25);
        Check.due("the key has not come", looping(5).sum(), gym.sumAnew(5));
        gym.press(6);
        Check.due("a key of another way", gym.sum(), gym.sumAnew(5));
        Check.due("ahead of it", looping(4).sum(), gym.sumAnew(4));
        gym.step(25);
        Check.due("both keys came on the way", gym.sum(), gym.sumAnew(30));
        KernelGym first = looping(0);
        first.press(1);
        Check.due("a key behind no steps", first.sum(), first.sumAnew(0));
        KernelGym reads = Check.started(24, 0, 0, 0, 25, 1, 0, 0, 12, 0, 0, 8);
        for (int key = 1; key <= 20; key++) {
            reads.step(1 + key % 3);
            reads.press(1000 + key);
            Check.due("the last of " + key + " keys has come", reads.sum(), reads.sumAnew(reads.steps()));
        }
        reads.step(60);
        Check.due("twenty keys are read", 1020, reads.tapeAt(reads.tape() - 1 - keysMissing(reads)));
        Check.due("twenty keys are read anew", reads.sum(), reads.sumAnew(reads.steps()));
    }

    /** How many words at the end of the tape tell that there was no key. */
    private static int keysMissing(KernelGym gym) {
        int missing = 0;
        while (gym.tapeAt(gym.tape() - 1 - missing) == 65535) {
            missing++;
        }
        return missing;
    }

    private static void sumAnewFromStart() {
        KernelGym gym = Edges.crashed();
        gym.start();
        int sum = gym.sum();
        gym.step(90);
        Check.due("the disk as it was mended", sum, gym.sumAnew(0));
        Check.due("steps behind it", gym.sum(), gym.sumAnew(90));
        gym.clear();
        gym.word(NUMBER, 0);
        gym.assemble();
        Check.due("the image of the start", sum, gym.sumAnew(0));
        gym.addTest(50, 50, 1, 3);
        gym.submit();
        int now = gym.sum();
        Check.due("a submission between", now, gym.sumAnew(90));
        Check.due("the machine stays", now, gym.sum());
        Check.due("its steps, too", 90, gym.kept());
        gym.crash();
        gym.start();
        Check.due("another start", gym.sum(), gym.sumAnew(0));
    }

    /** The 512th call answers as the calls ahead of it do. */
    private static void call512() {
        KernelGym gym = Check.started(4, 0, 0, 1, 12, 0, 0, 8);
        int calls = 4;
        while (calls < 511) {
            Check.due("the call " + calls, 1, gym.step(1));
            calls++;
        }
        Check.due("the call 512", 254, gym.register(0));
    }
}
