/** Promises 45 to 51: tests, submissions and the mark. */
public final class TrialsTest {
    private static final int NUMBER = KernelGym.NUMBER, LABEL = KernelGym.LABEL;

    public static void main(String[] args) {
        draft();
        addTest();
        resultOf();
        stepBudget();
        blockBudget();
        tapes();
        keys();
        crashes();
        mending();
        orderOfResults();
        machineStays();
        image();
        marks();
        markOfNewTests();
        Check.end();
    }

    private static void program(KernelGym gym, int... numbers) {
        gym.clear();
        Check.code(gym, numbers);
        gym.assemble();
    }

    private static void draft() {
        KernelGym gym = new KernelGym();
        for (int i = 1; i <= 6; i++) {
            Check.due("testKey", i, gym.testKey(i == 1 ? 0 : 65535));
            Check.due("testWord", i, gym.testWord(i == 1 ? 65535 : 0));
        }
        Check.untimely(gym, "a 7th key", () -> gym.testKey(1));
        Check.untimely(gym, "a 7th word", () -> gym.testWord(1));
        for (int bad : new int[] {-1, 65536, Integer.MAX_VALUE}) {
            Check.outside(gym, "testKey " + bad, () -> gym.testKey(bad));
            Check.outside(gym, "testWord " + bad, () -> gym.testWord(bad));
        }
        Check.outside(gym, "a test that is out of range", () -> gym.addTest(0, 0, 1, 0));
        Check.untimely(gym, "the draft stays by it", () -> gym.testKey(1));
        Check.due("addTest", 0, gym.addTest(1, 0, 1, 0));
        Check.due("the draft is empty then", 1, gym.testKey(1));
        Check.due("and its words", 1, gym.testWord(1));
        Check.outside(gym, "testKey below", () -> gym.testKey(-1));
        Check.due("a key that threw is not added", 2, gym.testKey(1));
        Check.outside(gym, "testWord above", () -> gym.testWord(65536));
        Check.due("a word that threw is not added", 2, gym.testWord(1));
    }

    private static void addTest() {
        int[][] bad = {{0, 0, 1, 0}, {501, 0, 1, 0}, {-1, 0, 1, 0}, {1, -1, 1, 0}, {1, 101, 1, 0}, {1, 0, 0, 0},
            {1, 0, 21, 0}, {1, 0, 1, -1}, {1, 0, 1, 501}};
        for (int[] row : bad) {
            Edges.outside("addTest", KernelGym::new, gym -> gym.addTest(row[0], row[1], row[2], row[3]));
            Edges.outside("a sixth out of range", TrialsTest::fiveTests,
                gym -> gym.addTest(row[0], row[1], row[2], row[3]));
        }
        KernelGym gym = fiveTests();
        Check.untimely(gym, "a sixth", () -> gym.addTest(1, 0, 1, 1));
        Check.due("the draft stays", 2, gym.testKey(4));
    }

    private static KernelGym fiveTests() {
        KernelGym gym = new KernelGym();
        Check.due("no tests", 0, gym.tests());
        Check.due("the least test", 0, gym.addTest(1, 0, 1, 0));
        Check.due("the most test", 1, gym.addTest(500, 100, 20, 500));
        Check.due("a third", 2, gym.addTest(1, 0, 1, 1));
        Check.due("a fourth", 3, gym.addTest(1, 0, 1, 1));
        Check.due("a fifth", 4, gym.addTest(1, 0, 1, 1));
        Check.due("five tests", 5, gym.tests());
        gym.testKey(4);
        return gym;
    }

    private static void resultOf() {
        KernelGym gym = new KernelGym();
        Class<? extends RuntimeException> outside = IndexOutOfBoundsException.class;
        Check.refused(gym, "result 0 of no tests", outside, () -> gym.result(0));
        Check.untimely(gym, "submit without an image", () -> gym.submit());
        gym.addTest(5, 0, 3, 0);
        Check.untimely(gym, "submit a test without an image", () -> gym.submit());
        Check.due("not made", -1, gym.result(0));
        Check.refused(gym, "result -1", outside, () -> gym.result(-1));
        Check.refused(gym, "result 1", outside, () -> gym.result(1));
        program(gym);
        Check.due("not made by assembling", -1, gym.result(0));
        Check.due("submit", 1, gym.submit());
        Check.due("passed", KernelGym.PASSED, gym.result(0));
        gym.addTest(5, 0, 3, 0);
        Check.due("the new one is not made", -1, gym.result(1));
        Check.due("the mark without it", 3, gym.mark());
        KernelGym none = new KernelGym();
        program(none);
        Check.due("submit no tests", 0, none.submit());
        Check.due("the mark of no tests", 0, none.mark());
    }

    /** The result of one test with these budgets. */
    private static int resultOf(KernelGym gym, int steps, int blocks, int crash) {
        if (gym.tests() == 5) {
            throw new IllegalStateException("five tests");
        }
        int test = gym.addTest(steps, blocks, 1, crash);
        gym.submit();
        return gym.result(test);
    }

    private static void stepBudget() {
        KernelGym gym = new KernelGym();
        program(gym, 1, 0, 0, 1, 1, 0, 0, 1, 0, 0, 0, 0);
        Check.due("just in the budget", KernelGym.PASSED, resultOf(gym, 3, 0, 0));
        Check.due("out of the budget", KernelGym.SLOW, resultOf(gym, 2, 0, 0));
        program(gym, 1, 0, 0, 1, 1, 0, 0, 1, 18, 0, 0, 0);
        Check.due("a fault in the budget", KernelGym.FAILED_BY_FAULT, resultOf(gym, 3, 0, 0));
        Check.due("a fault out of the budget", KernelGym.SLOW, resultOf(gym, 2, 0, 0));
        program(gym, 12, 0, 0, 8);
        Check.due("no end", KernelGym.SLOW, resultOf(gym, 500, 0, 0));
    }

    private static void blockBudget() {
        KernelGym gym = new KernelGym();
        program(gym, 1, 0, 0, 4, 26, 0, 0, 0, 26, 0, 0, 1, 0, 0, 0, 0);
        Check.due("just in the budget", KernelGym.PASSED, resultOf(gym, 50, 12, 0));
        Check.due("out of the budget", KernelGym.GREEDY, resultOf(gym, 50, 11, 0));
        Check.due("far out of the budget", KernelGym.GREEDY, resultOf(gym, 50, 0, 0));
        gym.submit();
        Check.due("each submission with a formatted disk", KernelGym.PASSED, gym.result(0));
    }

    private static void tapes() {
        KernelGym gym = new KernelGym();
        gym.testWord(5);
        gym.testWord(65535);
        gym.addTest(9, 0, 1, 0);
        gym.addTest(9, 0, 1, 0);
        int[][] tapes = {{5, 65535}, {5, 65534}, {6, 65535}, {5}, {5, 65535, 0}, {65535, 5}};
        for (int i = 0; i < tapes.length; i++) {
            gym.clear();
            for (int word : tapes[i]) {
                gym.code(25, 0, 0, NUMBER, word);
            }
            gym.code(0, 0, 0, NUMBER, 0);
            gym.assemble();
            Check.due("how many pass", i == 0 ? 1 : 0, gym.submit());
            Check.due("the tape " + i, i == 0 ? KernelGym.PASSED : KernelGym.WRONG, gym.result(0));
            Check.due("no words expected", KernelGym.WRONG, gym.result(1));
        }
        program(gym, 0, 0, 0, 0);
        gym.submit();
        Check.due("no words at all", KernelGym.WRONG, gym.result(0));
        Check.due("no words as expected", KernelGym.PASSED, gym.result(1));
    }

    private static void keys() {
        KernelGym gym = new KernelGym();
        gym.testKey(7);
        gym.testKey(8);
        gym.testWord(7);
        gym.testWord(8);
        gym.testWord(65535);
        gym.addTest(20, 0, 1, 0);
        program(gym, 24, 0, 0, 0, 25, 1, 0, 0, 24, 0, 0, 0, 25, 1, 0, 0, 24, 0, 0, 0, 25, 1, 0, 0, 0, 0, 0, 0);
        Check.due("keys are read", 1, gym.submit());
        // A key is pending ahead of the first step: waiting takes one step.
        gym.testKey(7);
        gym.addTest(2, 0, 1, 0);
        gym.addTest(2, 0, 1, 0);
        program(gym, 22, 0, 0, 0, 0, 0, 0, 0);
        gym.submit();
        Check.due("a key is pending at first", KernelGym.PASSED, gym.result(1));
        Check.due("none without keys", KernelGym.SLOW, gym.result(2));
    }

    private static void crashes() {
        KernelGym gym = new KernelGym();
        // The key, or 65535, comes on the tape; then there are some steps up to the halt.
        gym.testKey(7);
        gym.testWord(65535);
        gym.addTest(20, 0, 1, 3);
        gym.testKey(7);
        gym.testWord(7);
        gym.addTest(20, 0, 1, 4);
        gym.testKey(7);
        gym.testWord(65535);
        gym.addTest(7, 0, 1, 3);
        gym.testKey(7);
        gym.testWord(65535);
        gym.addTest(6, 0, 1, 3);
        gym.testKey(7);
        gym.testWord(7);
        gym.addTest(20, 0, 1, 5);
        program(gym, 24, 0, 0, 0, 25, 1, 0, 0, 1, 2, 2, 5, 0, 0, 0, 0);
        Check.due("how many pass", 4, gym.submit());
        Check.due("started again without keys", KernelGym.PASSED, gym.result(0));
        Check.due("no crash in the step that halts", KernelGym.PASSED, gym.result(1));
        Check.due("steps of the whole test in the budget", KernelGym.PASSED, gym.result(2));
        Check.due("steps of the whole test count", KernelGym.SLOW, gym.result(3));
        Check.due("no crash behind the halt", KernelGym.PASSED, gym.result(4));
        crashOnce();
    }

    private static void crashOnce() {
        KernelGym gym = new KernelGym();
        // It crashes once, though as many steps are made since the second start.
        program(gym, 1, 0, 0, 1, 1, 0, 0, 1, 1, 0, 0, 1, 0, 0, 0, 0);
        Check.due("one crash behind two steps", KernelGym.PASSED, resultOf(gym, 6, 0, 2));
        Check.due("and the budget", KernelGym.SLOW, resultOf(gym, 5, 0, 2));
        Check.due("a crash at the budget", KernelGym.SLOW, resultOf(gym, 3, 0, 3));
        Check.due("a crash behind the budget", KernelGym.SLOW, resultOf(gym, 3, 0, 4));
        program(gym, 18, 0, 0, 0);
        Check.due("no crash in the step that fails", KernelGym.FAILED_BY_FAULT, resultOf(gym, 9, 0, 1));
    }

    private static void mending() {
        KernelGym gym = new KernelGym();
        // A file is made; if that is refused, as it is there, the result is 1.
        program(gym, 1, 0, 0, 4, 26, 0, 0, 0, 25, 0, 3, 0, 0, 0, 0, 0);
        gym.testWord(0);
        // Behind 4 steps the head is written: 2 blocks by then, 2 by mending.
        Check.due("a crash ahead of the head", KernelGym.PASSED, resultOf(gym, 50, 5, 3));
        gym.testWord(1);
        Check.due("a crash behind the head", KernelGym.PASSED, resultOf(gym, 50, 4, 4));
        gym.testWord(1);
        Check.due("mending counts", KernelGym.GREEDY, resultOf(gym, 50, 3, 4));
        gym.testWord(1);
        Check.due("a crash behind the place", KernelGym.PASSED, resultOf(gym, 50, 5, 5));
        gym.testWord(1);
        Check.due("a crash behind the call", KernelGym.PASSED, resultOf(gym, 50, 4, 6));
    }

    private static void orderOfResults() {
        KernelGym gym = new KernelGym();
        gym.testWord(9);
        gym.addTest(6, 0, 1, 0);
        gym.testWord(9);
        gym.addTest(8, 0, 1, 0);
        program(gym, 1, 0, 0, 4, 26, 0, 0, 0, 18, 0, 0, 0);
        gym.submit();
        Check.due("slow ahead of greedy", KernelGym.SLOW, gym.result(0));
        Check.due("a fault ahead of greedy", KernelGym.FAILED_BY_FAULT, gym.result(1));
        program(gym, 1, 0, 0, 4, 26, 0, 0, 0, 0, 0, 0, 0);
        gym.submit();
        Check.due("greedy ahead of wrong", KernelGym.GREEDY, gym.result(1));
    }

    private static void machineStays() {
        KernelGym gym = Check.ran(4, 1, 0, 0, 3, 26, 0, 0, 0, 25, 0, 0, 1, 12, 0, 0, 8);
        gym.press(6);
        gym.testKey(4);
        gym.addTest(100, 100, 2, 3);
        java.util.List<Long> before = Check.answersOf(gym);
        Check.due("submit", 0, gym.submit());
        java.util.List<Long> after = Check.answersOf(gym);
        before.remove(before.size() - 1);
        after.remove(after.size() - 1);
        Check.same("the machine, its disk and the source", before, after);
        Check.due("steps back", 4, gym.back(9));
        Check.due("and forth", 4, gym.step(4));
        Check.due("the sum anew", gym.sum(), gym.sumAnew(4));
    }

    private static void image() {
        KernelGym gym = new KernelGym();
        program(gym, 25, 0, 0, 4, 0, 0, 0, 0);
        gym.start();
        gym.step(1);
        program(gym, 25, 0, 0, 5, 0, 0, 0, 0);
        gym.testWord(5);
        gym.addTest(5, 0, 1, 0);
        Check.due("tests are made with the image, not with the machine's", 1, gym.submit());
        gym.clear();
        gym.code(25, 0, 0, NUMBER, 6);
        Check.due("nor with a source that is not assembled", 1, gym.submit());
        gym.crash();
        Check.due("and also while the machine is OFF", 1, gym.submit());
    }

    /** Makes a submission of a program that writes this word on the tape. */
    private static int submitted(KernelGym gym, int word) {
        program(gym, 25, 0, 0, word, 0, 0, 0, 0);
        return gym.submit();
    }

    private static void marks() {
        KernelGym gym = new KernelGym();
        int[] points = {20, 5, 4, 1};
        int[] words = {1, 2, 1, 1};
        for (int i = 0; i < points.length; i++) {
            gym.testWord(words[i]);
            gym.addTest(5, 0, points[i], 0);
        }
        Check.due("no submission", 0, gym.mark());
        Check.due("nothing passes", 0, submitted(gym, 3));
        Check.due("the mark of nothing", 0, gym.mark());
        Check.due("one passes", 1, submitted(gym, 2));
        Check.due("the mark of one", 5, gym.mark());
        Check.due("three pass", 3, submitted(gym, 1));
        Check.due("less half of 5, rounded up", 25 - 3, gym.mark());
        Check.due("one passes again", 1, submitted(gym, 2));
        Check.due("not below 0", 0, gym.mark());
        Check.due("nothing passes again", 0, submitted(gym, 3));
        Check.due("not below 0 for all", 0, gym.mark());
        Check.due("three pass again", 3, submitted(gym, 1));
        Check.due("the mark is of the last submission", 25 - 3, gym.mark());
    }

    private static void markOfNewTests() {
        KernelGym gym = new KernelGym();
        gym.testWord(1);
        gym.addTest(5, 0, 10, 0);
        gym.testWord(2);
        gym.addTest(5, 0, 6, 0);
        submitted(gym, 1);
        Check.due("what has never passed takes nothing", 10, gym.mark());
        submitted(gym, 2);
        Check.due("half of even points", 1, gym.mark());
        gym.testWord(2);
        gym.addTest(5, 0, 8, 0);
        Check.due("a test that was not made yet", 1, gym.mark());
        submitted(gym, 2);
        Check.due("the mark with it", 6 + 8 - 5, gym.mark());
    }
}
