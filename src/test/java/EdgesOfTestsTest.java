/** The boundary cases that the document names under TESTS, and in the promises 45 to 51. */
public final class EdgesOfTestsTest {
    private static final int NUMBER = KernelGym.NUMBER;

    public static void main(String[] args) {
        Check.about("TESTS");
        stepsOfBudget();
        blocksOfBudget();
        blocksOfHighestBudget();
        tapes();
        keysAheadOfSteps();
        noKeysBehindCrash();
        crashStep();
        crashOnce();
        crashThatMends();
        crashKeepsDisk();
        firstResult();
        machineOfItsOwn();
        marks();
        halves();
        notBelowZero();
        earlierAndLast();
        promises();
        Check.namesPromises(45, 51);
        Check.end();
    }

    private static void promises() {
        drafts();
        addTest();
        draftOfTest();
        tests();
        submit();
        submitChangesNothing();
        results();
        mark();
    }

    private static void program(KernelGym gym, int... code) {
        gym.clear();
        Check.code(gym, code);
        gym.assemble();
    }

    /** The result of the only test of a program, with this draft and these budgets. */
    private static int result(int[] code, int[] keys, int[] words, int steps, int blocks, int crash) {
        KernelGym gym = new KernelGym();
        program(gym, code);
        for (int key : keys) {
            gym.testKey(key);
        }
        for (int word : words) {
            gym.testWord(word);
        }
        gym.addTest(steps, blocks, 1, crash);
        int passed = gym.submit();
        Check.due("a test that passes counts", gym.result(0) == KernelGym.PASSED ? 1 : 0, passed);
        return gym.result(0);
    }

    private static final int[] NONE = {};

    private static int result(int[] code, int steps, int blocks, int crash) {
        return result(code, NONE, NONE, steps, blocks, crash);
    }

    /** How many steps a program makes until it ends. */
    private static int stepsOf(int[] code) {
        KernelGym gym = new KernelGym();
        program(gym, code);
        gym.start();
        for (int i = 0; i < 10; i++) {
            gym.step(100);
        }
        return gym.state() == KernelGym.RUNS ? -1 : gym.steps();
    }

    private static void stepsOfBudget() {
        for (int count : new int[] {0, 1, 2, 30, 165}) {
            for (int operation : new int[] {0, 18}) {
                int[] code = count == 0 ? new int[] {operation, 0, 0, 0} : looping(count, operation);
                int steps = stepsOf(code);
                int due = operation == 0 ? KernelGym.PASSED : KernelGym.FAILED_BY_FAULT;
                Check.due("a budget of just " + steps, due, result(code, steps, 0, 0));
                Check.due("one step more", due, result(code, Math.min(steps + 1, 500), 0, 0));
                if (steps > 1) {
                    Check.due("one step less", KernelGym.SLOW, result(code, steps - 1, 0, 0));
                }
            }
        }
        int[] most = looping500();
        Check.due("steps of the longest test", 500, stepsOf(most));
        Check.due("the highest budget", KernelGym.PASSED, result(most, 500, 0, 0));
        Check.due("it is not enough", KernelGym.SLOW, result(new int[] {12, 0, 0, 8}, 500, 0, 0));
    }

    /** Register 0 goes down to 0, by three steps each time; the last time takes two, and one that ends. */
    private static int[] looping(int count, int operation) {
        return new int[] {1, 0, 0, count, 5, 0, 0, 1, 13, 0, 0, 16, 12, 0, 0, 10, operation, 0, 0, 0};
    }

    /** One step, 3 for each of 165 times and 2 for the last one, one more, and the one that halts. */
    private static int[] looping500() {
        return new int[] {1, 0, 0, 166, 5, 0, 0, 1, 13, 0, 0, 16, 12, 0, 0, 10, 1, 1, 1, 0, 0, 0, 0, 0};
    }

    /** A file is made: 4 blocks; a word is put to it: 8 blocks; the same word takes its place: 4 blocks. */
    private static final int[] FILES = {1, 0, 0, 4, 26, 0, 0, 0, 26, 0, 0, 1, 26, 0, 0, 2, 0, 0, 0, 0};

    private static void blocksOfBudget() {
        Check.due("no blocks, and no budget", KernelGym.PASSED, result(new int[] {0, 0, 0, 0}, 1, 0, 0));
        for (int calls = 1; calls <= 3; calls++) {
            int[] code = FILES.clone();
            if (calls < 3) {
                code[4 * (1 + calls)] = 0;
            }
            int blocks = calls == 1 ? 4 : calls == 2 ? 12 : 16;
            Check.due("just " + blocks + " blocks", KernelGym.PASSED, result(code, 100, blocks, 0));
            Check.due("one block less", KernelGym.GREEDY, result(code, 100, blocks - 1, 0));
            Check.due("one block more", KernelGym.PASSED, result(code, 100, blocks + 1, 0));
            Check.due("no budget", KernelGym.GREEDY, result(code, 100, 0, 0));
        }
    }

    /** Words take a place 22 times, 4 blocks each, behind 12; and once more. */
    private static void blocksOfHighestBudget() {
        for (int times = 22; times <= 23; times++) {
            int[] code = {1, 0, 0, 4, 26, 0, 0, 0, 26, 0, 0, 1, 26, 0, 0, 2, 4, 3, 3, 0, 4, 2, 2, 1, 11, 2, 2, times,
                13, 0, 0, 26, 12, 0, 0, 14, 0, 0, 0, 0};
            Check.due("a budget of 100 for " + (12 + 4 * times), times == 22 ? KernelGym.PASSED : KernelGym.GREEDY,
                result(code, 500, 100, 0));
        }
    }

    private static int[] writing(int... words) {
        int[] code = new int[4 * words.length + 4];
        for (int i = 0; i < words.length; i++) {
            code[4 * i] = 25;
            code[4 * i + 3] = words[i];
        }
        return code;
    }

    private static void tapes() {
        int[] six = {65535, 0, 1, 2, 3, 4};
        Check.due("no words", KernelGym.PASSED, result(writing(), 9, 0, 0));
        Check.due("a word that is not expected", KernelGym.WRONG, result(writing(0), 9, 0, 0));
        Check.due("no word where one is expected", KernelGym.WRONG, result(writing(), NONE, new int[] {0}, 9, 0, 0));
        Check.due("just six words", KernelGym.PASSED, result(writing(six), NONE, six, 9, 0, 0));
        Check.due("seven words", KernelGym.WRONG, result(writing(65535, 0, 1, 2, 3, 4, 5), NONE, six, 9, 0, 0));
        Check.due("five words", KernelGym.WRONG, result(writing(65535, 0, 1, 2, 3), NONE, six, 9, 0, 0));
        for (int i = 0; i < 6; i++) {
            int[] other = six.clone();
            other[i] = other[i] == 0 ? 65535 : other[i] - 1;
            Check.due("another word " + i, KernelGym.WRONG, result(writing(other), NONE, six, 9, 0, 0));
        }
        int[] sixty = new int[61];
        Check.due("60 words", KernelGym.WRONG, result(writing(java.util.Arrays.copyOf(sixty, 60)), 99, 0, 0));
        Check.due("61 words", KernelGym.FAILED_BY_FAULT, result(writing(sixty), 99, 0, 0));
    }

    /** Reads keys, and puts them on the tape, so many times. */
    private static int[] reading(int times) {
        int[] code = new int[8 * times + 4];
        for (int i = 0; i < times; i++) {
            code[8 * i] = 24;
            code[8 * i + 4] = 25;
            code[8 * i + 5] = 1;
        }
        return code;
    }

    private static void keysAheadOfSteps() {
        int[] six = {65535, 0, 1, 2, 3, 4};
        Check.due("six keys", KernelGym.PASSED, result(reading(6), six, six, 99, 0, 0));
        int[] five = {9, 8, 7, 6, 5};
        int[] fiveAndNone = {9, 8, 7, 6, 5, 65535};
        Check.due("five keys", KernelGym.PASSED, result(reading(6), five, fiveAndNone, 99, 0, 0));
        Check.due("no keys", KernelGym.PASSED, result(reading(1), NONE, new int[] {65535}, 99, 0, 0));
        int[] waits = {22, 0, 0, 0, 0, 0, 0, 0};
        Check.due("a key is there ahead of the first step", KernelGym.PASSED, result(waits, six, NONE, 2, 0, 0));
        Check.due("no key is there", KernelGym.SLOW, result(waits, NONE, NONE, 500, 0, 0));
        KernelGym gym = new KernelGym();
        program(gym, waits);
        for (int test = 0; test < 5; test++) {
            if (test % 2 == 0) {
                gym.testKey(test);
            }
            gym.addTest(500, 0, 1, 0);
        }
        Check.due("three of five tests have a key", 3, gym.submit());
        Check.due("the key of the test ahead has not come", KernelGym.SLOW, gym.result(1));
        // The interrupt of keys goes to the address 0, where the vector for the timer is a halt.
        int[] taken = {19, 0, 0, 0, 12, 0, 0, 10};
        Check.due("an interrupt of keys", KernelGym.PASSED, result(taken, six, NONE, 3, 0, 0));
        Check.due("no interrupt", KernelGym.SLOW, result(taken, NONE, NONE, 3, 0, 0));
    }

    private static void noKeysBehindCrash() {
        int[] code = reading(1);
        int[] key = {7};
        int[] none = {65535};
        Check.due("the key is read again without a crash", KernelGym.PASSED, result(code, key, key, 9, 0, 0));
        Check.due("no key behind a crash", KernelGym.PASSED, result(code, key, none, 9, 0, 1));
        Check.due("no key behind a crash with a tape", KernelGym.PASSED, result(code, key, none, 9, 0, 2));
        int[] waits = {22, 0, 0, 0, 0, 0, 0, 0};
        Check.due("none is pending behind a crash", KernelGym.SLOW, result(waits, key, NONE, 500, 0, 1));
    }

    /** Three steps, the last of which halts. */
    private static void crashStep() {
        int[] code = {1, 0, 0, 1, 25, 0, 0, 5, 0, 0, 0, 0};
        int[] word = {5};
        for (int crash = 0; crash <= 5; crash++) {
            boolean crashes = crash == 1 || crash == 2;
            int steps = 3 + (crashes ? crash : 0);
            String what = "a crash behind " + crash;
            Check.due(what + ", the tape of the second start", KernelGym.PASSED, result(code, NONE, word, 99, 0, crash));
            Check.due(what + ", just enough steps", KernelGym.PASSED, result(code, NONE, word, steps, 0, crash));
            Check.due(what + ", one step less", KernelGym.SLOW, result(code, NONE, word, steps - 1, 0, crash));
        }
        Check.due("a crash behind the budget", KernelGym.PASSED, result(code, NONE, word, 3, 0, 4));
        Check.due("a crash at the budget, where it halts", KernelGym.PASSED, result(code, NONE, word, 3, 0, 3));
        Check.due("a crash at the budget, where it runs", KernelGym.SLOW, result(code, NONE, word, 2, 0, 2));
        Check.due("a crash in the last step there is", KernelGym.SLOW, result(new int[] {12, 0, 0, 8}, 500, 0, 500));
        Check.due("a crash where it fails", KernelGym.FAILED_BY_FAULT, result(new int[] {18, 0, 0, 0}, 9, 0, 1));
        Check.due("a crash ahead of where it fails", KernelGym.FAILED_BY_FAULT,
            result(new int[] {1, 0, 0, 0, 18, 0, 0, 0}, 3, 0, 1));
    }

    /** As many steps as the crash tells are made in the second start, too, but it crashes once. */
    private static void crashOnce() {
        int[] code = looping(20, 0);
        int steps = stepsOf(code);
        for (int crash : new int[] {1, 2, steps / 2, steps - 1}) {
            Check.due("one crash behind " + crash, KernelGym.PASSED, result(code, steps + crash, 0, crash));
            Check.due("and a step less", KernelGym.SLOW, result(code, steps + crash - 1, 0, crash));
        }
        Check.due("no crash in the step that halts", KernelGym.PASSED, result(code, steps, 0, steps));
    }

    /**
     * A file is made; its result, 1 if it is there already, comes on the tape. The head is written in step 4, the
     * directory in step 5, and the head with words 0 in step 6.
     */
    private static void crashThatMends() {
        int[] code = {1, 0, 0, 4, 26, 0, 0, 0, 25, 0, 3, 0, 0, 0, 0, 0};
        int[][] rows = {{1, 0, 4}, {2, 0, 4}, {3, 0, 1 + 4}, {4, 1, 2 + 2}, {5, 1, 3 + 2}, {6, 1, 4}, {7, 1, 4}};
        for (int[] row : rows) {
            int[] word = {row[1]};
            String what = "a crash behind " + row[0];
            Check.due(what + ": blocks with those that mend", KernelGym.PASSED,
                result(code, NONE, word, 99, row[2], row[0]));
            Check.due(what + ": one block less", KernelGym.GREEDY, result(code, NONE, word, 99, row[2] - 1, row[0]));
            Check.due(what + ": the other word", KernelGym.WRONG,
                result(code, NONE, new int[] {1 - row[1]}, 99, row[2], row[0]));
        }
    }

    /** Behind the crash the files are those of ahead of it, but each submission begins with a formatted disk. */
    private static void crashKeepsDisk() {
        KernelGym gym = new KernelGym();
        program(gym, 1, 0, 0, 4, 26, 0, 0, 0, 25, 0, 3, 0, 0, 0, 0, 0);
        gym.testWord(0);
        gym.addTest(99, 4, 1, 0);
        gym.testWord(1);
        gym.addTest(99, 4, 1, 7);
        for (int i = 0; i < 3; i++) {
            Check.due("each submission", 2, gym.submit());
        }
        gym.start();
        gym.step(100);
        gym.crash();
        Check.due("the disk of the machine has the file", 1, gym.files());
        Check.due("the disk of a test has not", 2, gym.submit());
    }

    /** Of several results that apply, it is the first one. */
    private static void firstResult() {
        int[] greedyAndFault = {1, 0, 0, 4, 26, 0, 0, 0, 18, 0, 0, 0};
        int[] word = {9};
        Check.due("a fault ahead of the rest", KernelGym.FAILED_BY_FAULT, result(greedyAndFault, NONE, word, 7, 0, 0));
        Check.due("slow ahead of the rest", KernelGym.SLOW, result(greedyAndFault, NONE, word, 6, 0, 0));
        int[] greedy = {1, 0, 0, 4, 26, 0, 0, 0, 0, 0, 0, 0};
        Check.due("greedy ahead of wrong", KernelGym.GREEDY, result(greedy, NONE, word, 7, 3, 0));
        Check.due("wrong", KernelGym.WRONG, result(greedy, NONE, word, 7, 4, 0));
        Check.due("passed", KernelGym.PASSED, result(greedy, 7, 4, 0));
        Check.due("slow in a file call", KernelGym.SLOW, result(greedy, 4, 4, 0));
    }

    private static void machineOfItsOwn() {
        KernelGym gym = Edges.running();
        int sum = gym.sum();
        int written = gym.written();
        gym.submit();
        Check.due("the machine and its disk stay", sum, gym.sum());
        Check.due("its blocks written, too", written, gym.written());
        gym.crash();
        program(gym, writing(4));
        gym.testWord(4);
        Check.due("a test with the draft's words", 2, gym.addTest(9, 0, 1, 0));
        gym.submit();
        Check.due("a draft of a key and two words", KernelGym.WRONG, gym.result(2));
        gym.testWord(4);
        gym.addTest(9, 0, 1, 0);
        gym.clear();
        Check.due("the image is what is tested, not the source", 1, gym.submit());
    }

    /** Makes a submission of a program that puts this word on the tape. */
    private static int submitted(KernelGym gym, int word) {
        program(gym, writing(word));
        return gym.submit();
    }

    /** Tests of so many points, which expect the words 1, 2 and so on. */
    private static KernelGym ofPoints(int... points) {
        KernelGym gym = new KernelGym();
        for (int i = 0; i < points.length; i++) {
            gym.testWord(1 + i);
            gym.addTest(9, 0, points[i], 0);
        }
        return gym;
    }

    private static void marks() {
        KernelGym gym = ofPoints(20, 20, 1);
        Check.due("the points of one", 1, submitted(gym, 1));
        Check.due("the mark of the first", 20, gym.mark());
        submitted(gym, 3);
        Check.due("less half of the first", 0, gym.mark());
        submitted(gym, 2);
        Check.due("less half of the first and the third", 20 - 10 - 1, gym.mark());
        submitted(gym, 1);
        Check.due("less half of the second and the third", 20 - 10 - 1, gym.mark());
        submitted(gym, 9);
        Check.due("none passes", 0, gym.mark());
        KernelGym all = new KernelGym();
        for (int i = 0; i < 5; i++) {
            all.addTest(9, 0, 20, 0);
        }
        program(all, 0, 0, 0, 0);
        Check.due("five tests pass", 5, all.submit());
        Check.due("the highest mark", 100, all.mark());
    }

    /** Half of the points, rounded up, for each number of points there may be. */
    private static void halves() {
        for (int points = 1; points <= 20; points++) {
            KernelGym gym = ofPoints(points, 20);
            submitted(gym, 1);
            Check.due("the points of " + points, points, gym.mark());
            submitted(gym, 2);
            Check.due("20 less half of " + points, 20 - (points / 2 + points % 2), gym.mark());
        }
    }

    private static void notBelowZero() {
        int[][] rows = {{20, 9, 0}, {20, 10, 0}, {20, 11, 1}, {19, 10, 0}, {19, 9, 0}, {19, 11, 1}, {1, 1, 0}};
        for (int[] row : rows) {
            KernelGym gym = ofPoints(row[0], row[1]);
            submitted(gym, 1);
            submitted(gym, 2);
            Check.due(row[1] + " less half of " + row[0], row[2], gym.mark());
            submitted(gym, 1);
            Check.due(row[0] + " less half of " + row[1], row[0] - (row[1] + 1) / 2, gym.mark());
        }
    }

    private static void earlierAndLast() {
        KernelGym gym = ofPoints(8, 20, 20);
        submitted(gym, 9);
        submitted(gym, 2);
        Check.due("a test that has never passed", 20, gym.mark());
        submitted(gym, 1);
        Check.due("the last submission counts", 0, gym.mark());
        submitted(gym, 3);
        Check.due("two that passed earlier", 20 - 10 - 4, gym.mark());
        submitted(gym, 3);
        Check.due("that is counted once", 20 - 10 - 4, gym.mark());
        gym.testWord(3);
        gym.addTest(9, 0, 7, 0);
        Check.due("a test that no submission has made", 20 - 10 - 4, gym.mark());
        submitted(gym, 3);
        Check.due("it passes", 20 - 10 - 4 + 7, gym.mark());
        submitted(gym, 2);
        Check.due("it passes no more", 20 - 4 - 10 - 4, gym.mark());
    }

    private static KernelGym draft(int keys, int words) {
        KernelGym gym = Edges.assembled();
        for (int i = 0; i < keys; i++) {
            gym.testKey(i);
        }
        for (int i = 0; i < words; i++) {
            gym.testWord(i);
        }
        return gym;
    }

    private static void drafts() {
        Check.promise(45);
        for (int keys = 0; keys < 6; keys++) {
            int had = keys;
            Edges.range("a key behind " + keys, 0, 65535, keys + 1, () -> draft(had, 6),
                (gym, number) -> gym.testKey(number));
        }
        Edges.untimely("a key behind 6", () -> draft(6, 0), gym -> gym.testKey(0));
        for (int bad : new int[] {-1, 65536}) {
            Edges.outside("a key out of range behind 6", () -> draft(6, 0), gym -> gym.testKey(bad));
        }
        Check.promise(46);
        for (int words = 0; words < 6; words++) {
            int had = words;
            Edges.range("a word behind " + words, 0, 65535, words + 1, () -> draft(6, had),
                (gym, number) -> gym.testWord(number));
        }
        Edges.untimely("a word behind 6", () -> draft(0, 6), gym -> gym.testWord(0));
        for (int bad : new int[] {-1, 65536}) {
            Edges.outside("a word out of range behind 6", () -> draft(0, 6), gym -> gym.testWord(bad));
        }
    }

    private static KernelGym ofTests(int tests) {
        KernelGym gym = draft(2, 1);
        for (int i = 0; i < tests; i++) {
            gym.addTest(50, 20, 1 + i, 0);
        }
        gym.testKey(3);
        gym.testWord(3);
        return gym;
    }

    private static void addTest() {
        Check.promise(47);
        for (int tests = 0; tests < 5; tests++) {
            int had = tests;
            Edges.Maker maker = () -> ofTests(had);
            Edges.range("steps", 1, 500, tests, maker, (gym, number) -> gym.addTest(number, 0, 1, 0));
            Edges.range("blocks", 0, 100, tests, maker, (gym, number) -> gym.addTest(1, number, 1, 0));
            Edges.range("points", 1, 20, tests, maker, (gym, number) -> gym.addTest(1, 0, number, 0));
            Edges.range("crash", 0, 500, tests, maker, (gym, number) -> gym.addTest(1, 0, 1, number));
        }
        Edges.Maker five = () -> ofTests(5);
        Edges.untimely("a sixth test", five, gym -> gym.addTest(1, 0, 1, 0));
        Edges.untimely("a sixth test of the highest numbers", five, gym -> gym.addTest(500, 100, 20, 500));
        Edges.outside("a sixth test, steps", five, gym -> gym.addTest(0, 0, 1, 0));
        Edges.outside("a sixth test, blocks", five, gym -> gym.addTest(1, 101, 1, 0));
        Edges.outside("a sixth test, points", five, gym -> gym.addTest(1, 0, 0, 0));
        Edges.outside("a sixth test, crash", five, gym -> gym.addTest(1, 0, 1, 501));
    }

    private static void draftOfTest() {
        KernelGym gym = new KernelGym();
        program(gym, reading(6));
        for (int key : new int[] {9, 8, 7, 6, 5, 4}) {
            gym.testKey(key);
            gym.testWord(key);
        }
        Check.due("a test with a full draft", 0, gym.addTest(20, 0, 1, 0));
        Check.due("the draft is empty: a key", 1, gym.testKey(1));
        Check.due("the draft is empty: a word", 1, gym.testWord(1));
        Check.due("a test with that", 1, gym.addTest(20, 0, 1, 0));
        Check.due("a test with an empty draft", 2, gym.addTest(20, 0, 1, 0));
        Check.due("one passes", 1, gym.submit());
        Check.due("that with the full draft", KernelGym.PASSED, gym.result(0));
        Check.due("not that with one word", KernelGym.WRONG, gym.result(1));
        program(gym, 0, 0, 0, 0);
        gym.submit();
        Check.due("no words on the tape, nor in the empty draft", KernelGym.PASSED, gym.result(2));
        Check.due("but one word in the draft", KernelGym.WRONG, gym.result(1));
    }

    private static void tests() {
        Check.promise(48);
        for (int tests = 0; tests <= 5; tests++) {
            Check.due("so many tests", tests, ofTests(tests).tests());
        }
        KernelGym full = ofTests(5);
        Check.untimely(full, "a sixth test", () -> full.addTest(1, 0, 1, 0));
        Check.due("tests behind that", 5, full.tests());
        full.clear();
        full.submit();
        full.start();
        Check.due("tests stay", 5, full.tests());
    }

    private static void submit() {
        Check.promise(49);
        Edges.untimely("nothing was assembled", KernelGym::new, gym -> gym.submit());
        Edges.untimely("nothing was assembled, with a source and tests", EdgesOfTestsTest::notAssembled,
            gym -> gym.submit());
        KernelGym none = new KernelGym();
        none.assemble();
        Check.due("no tests", 0, none.submit());
        for (int tests = 1; tests <= 5; tests++) {
            none.addTest(1, 0, 1, 0);
            Check.due("all of " + tests + " pass", tests, none.submit());
        }
        KernelGym gym = ofPoints(1, 1, 1, 1, 1);
        for (int word = 0; word <= 6; word++) {
            Check.due("how many pass for " + word, word >= 1 && word <= 5 ? 1 : 0, submitted(gym, word));
            for (int test = 0; test < 5; test++) {
                Check.due("the test " + test, word == test + 1 ? KernelGym.PASSED : KernelGym.WRONG, gym.result(test));
            }
        }
    }

    private static KernelGym notAssembled() {
        KernelGym gym = new KernelGym();
        gym.word(NUMBER, 0);
        gym.addTest(9, 0, 1, 0);
        return gym;
    }

    /** The machine, its disk and the source stay, whatever the machine's state is. */
    private static void submitChangesNothing() {
        Edges.Maker[] makers = {Edges::running, Edges::calling, Edges::crashed, Edges::halted, Edges::faulted};
        for (int i = 0; i < makers.length; i++) {
            KernelGym gym = makers[i].make();
            gym.submit();
            // The same submission again, so that results and mark are the same on both sides.
            KernelGym twice = makers[i].make();
            twice.submit();
            twice.submit();
            Check.same("all behind a second submission " + i, Edges.traceOf(gym), Edges.traceOf(twice));
            KernelGym other = makers[i].make();
            KernelGym same = makers[i].make();
            other.submit();
            Check.due("the sum " + i, same.sum(), other.sum());
            Check.due("steps that are kept " + i, same.kept(), other.kept());
            Check.due("lines " + i, same.lines(), other.lines());
            Check.due("blocks written " + i, same.written(), other.written());
            Check.same("steps back " + i, Edges.answerOf(() -> same.back(7)), Edges.answerOf(() -> other.back(7)));
            Check.due("the sum then " + i, same.sum(), other.sum());
        }
    }

    private static void results() {
        Check.promise(50);
        for (int tests = 0; tests <= 5; tests++) {
            int number = tests;
            for (int bad : new int[] {-1, tests, 5, 6, Integer.MIN_VALUE, Integer.MAX_VALUE}) {
                Edges.beyond("the test " + bad + " of " + tests, () -> ofTests(number), gym -> gym.result(bad));
            }
            for (int test = 0; test < tests; test++) {
                Check.due("no submission has made it", -1, ofTests(tests).result(test));
            }
        }
        int[][] programs = {{0, 0, 0, 0}, {18, 0, 0, 0}, {12, 0, 0, 8}, {1, 0, 0, 4, 26, 0, 0, 0, 0, 0, 0, 0},
            {25, 0, 0, 0, 0, 0, 0, 0}};
        int[] due = {KernelGym.PASSED, KernelGym.FAILED_BY_FAULT, KernelGym.SLOW, KernelGym.GREEDY, KernelGym.WRONG};
        KernelGym gym = new KernelGym();
        gym.addTest(50, 3, 1, 0);
        for (int i = 0; i < programs.length; i++) {
            program(gym, programs[i]);
            Check.due("the result stays until a submission", i == 0 ? -1 : due[i - 1], gym.result(0));
            gym.submit();
            Check.due("the result " + i, due[i], gym.result(0));
            Check.due("it is asked again", due[i], gym.result(0));
        }
        gym.addTest(50, 3, 1, 0);
        Check.due("a test behind the submission", -1, gym.result(1));
        Check.due("the one ahead of it", KernelGym.WRONG, gym.result(0));
    }

    private static void mark() {
        Check.promise(51);
        Check.due("no tests", 0, new KernelGym().mark());
        KernelGym gym = ofPoints(20, 20, 20, 20, 20);
        Check.due("no submission", 0, gym.mark());
        for (int word = 1; word <= 5; word++) {
            submitted(gym, word);
            Check.due("five tests, " + (word - 1) + " that passed earlier", Math.max(0, 20 - 10 * (word - 1)), gym.mark());
        }
        submitted(gym, 6);
        Check.due("none passes, and all have passed", 0, gym.mark());
        gym.clear();
        Check.due("the mark stays", 0, gym.mark());
    }
}
