import java.util.ArrayList;
import java.util.List;
import java.util.Map;
import java.util.TreeMap;

/** Counts the answers that are due and those that are not; what the tests of the project share. */
final class Check {
    /** A call that answers a number. */
    interface Call {
        long make();
    }

    private static int passed;
    private static int failed;
    private static String about = "";
    private static final Map<String, Integer> ANSWERS = new TreeMap<>();

    private Check() {
    }

    /** The answers that follow show what this promise says. */
    static void promise(int number) {
        about("Promise " + number);
    }

    /** The answers that follow show what the document says under this head. */
    static void about(String head) {
        about = head;
        ANSWERS.putIfAbsent(head, 0);
    }

    /** Each promise from the first to the last one has answers of its own. */
    static void namesPromises(int first, int last) {
        about = "";
        for (int number = first; number <= last; number++) {
            String promise = "Promise " + number;
            holds("there are answers for " + promise, ANSWERS.getOrDefault(promise, 0) > 0);
        }
    }

    private static void count(boolean asDue, String message) {
        if (asDue) {
            passed++;
        } else {
            failed++;
            System.out.println(about.isEmpty() ? message : about + ": " + message);
        }
        if (!about.isEmpty()) {
            ANSWERS.merge(about, 1, Integer::sum);
        }
    }

    static void due(String what, long want, long got) {
        count(got == want, got == want ? "" : what + " answered " + got + ", due is " + want);
    }

    static void holds(String what, boolean got) {
        due(what, 1, got ? 1 : 0);
    }

    static void same(String what, Object want, Object got) {
        boolean asDue = want.equals(got);
        count(asDue, asDue ? "" : what + " was " + got + ", due is " + want);
    }

    /** The call throws just this exception, and nothing that can be asked of the object changes. */
    static void refused(KernelGym gym, String what, Class<? extends RuntimeException> want, Call call) {
        List<Long> before = answersOf(gym);
        String got = "nothing";
        try {
            call.make();
        } catch (RuntimeException e) {
            got = e.getClass().getName();
        }
        same(what + " throws", want.getName(), got);
        same(what + " leaves", before, answersOf(gym));
    }

    static void outside(KernelGym gym, String what, Call call) {
        refused(gym, what, IllegalArgumentException.class, call);
    }

    static void untimely(KernelGym gym, String what, Call call) {
        refused(gym, what, IllegalStateException.class, call);
    }

    static void end() {
        System.out.println(passed + " answers are as due, " + failed + " are not");
        if (failed != 0 || passed == 0) {
            System.exit(1);
        }
    }

    /** What can be asked without arguments, and what results there are. */
    static List<Long> answersOf(KernelGym gym) {
        List<Long> answers = new ArrayList<>();
        long[] numbers = {gym.lines(), gym.error(), gym.state(), gym.fault(), gym.steps(), gym.kept(),
            gym.counter(), gym.stack(), gym.flags(), gym.writesLeft(), gym.tape(), gym.sum(), gym.written(),
            gym.files(), gym.freeBlocks(), gym.isWhole() ? 1 : 0, gym.tests(), gym.mark()};
        for (long number : numbers) {
            answers.add(number);
        }
        for (int i = 0; i < gym.tests(); i++) {
            answers.add((long) gym.result(i));
        }
        return answers;
    }

    /** Adds instructions, four numbers each: the operation, d, s and the number. */
    static void code(KernelGym gym, int... numbers) {
        for (int i = 0; i + 3 < numbers.length; i += 4) {
            gym.code(numbers[i], numbers[i + 1], numbers[i + 2], KernelGym.NUMBER, numbers[i + 3]);
        }
    }

    /** A machine that runs with these instructions, four numbers each. */
    static KernelGym started(int... numbers) {
        KernelGym gym = new KernelGym();
        code(gym, numbers);
        gym.assemble();
        gym.start();
        return gym;
    }

    /** A machine that has made steps with these instructions. */
    static KernelGym ran(int steps, int... numbers) {
        KernelGym gym = started(numbers);
        due("steps that are made", steps, gym.step(steps));
        return gym;
    }
}
