import java.util.ArrayList;
import java.util.List;
import java.util.NoSuchElementException;

/** Calls with the first and the last number that is taken, and refused ones, behind which all is as without them. */
final class Edges {
    /** Makes an object and brings it to a state, with less than 350 calls. */
    interface Maker {
        KernelGym make();
    }

    /** A call on an object. */
    interface CallOn {
        long on(KernelGym gym);
    }

    /** A call on an object, with a number. */
    interface CallWith {
        long on(KernelGym gym, int number);
    }

    private static final int NUMBER = KernelGym.NUMBER, LABEL = KernelGym.LABEL;

    private Edges() {
    }

    /** Numbers from the least to the most are taken and answered by what is due; others are refused. */
    static void range(String what, int least, int most, long due, Maker maker, CallWith call) {
        for (int good : new int[] {least, most}) {
            Check.due(what + " " + good, due, call.on(maker.make(), good));
        }
        for (int bad : new int[] {least - 1, most + 1, Integer.MIN_VALUE, Integer.MAX_VALUE}) {
            outside(what + " " + bad, maker, gym -> call.on(gym, bad));
        }
    }

    static void outside(String what, Maker maker, CallOn call) {
        refused(what, IllegalArgumentException.class, maker, call);
    }

    static void untimely(String what, Maker maker, CallOn call) {
        refused(what, IllegalStateException.class, maker, call);
    }

    static void beyond(String what, Maker maker, CallOn call) {
        refused(what, IndexOutOfBoundsException.class, maker, call);
    }

    static void missing(String what, Maker maker, CallOn call) {
        refused(what, NoSuchElementException.class, maker, call);
    }

    /** The call throws just this exception, and an object that was refused goes on as one that was not asked. */
    private static void refused(String what, Class<? extends RuntimeException> want, Maker maker, CallOn call) {
        KernelGym refused = maker.make();
        Check.same(what, want.getName(), answerOf(() -> call.on(refused)));
        Check.same(what + ", and what follows", traceOf(maker.make()), traceOf(refused));
    }

    static String answerOf(Check.Call call) {
        try {
            return "" + call.make();
        } catch (RuntimeException e) {
            return e.getClass().getName();
        }
    }

    /** Asks the words of the sum of three machines that are made alike, as one takes 512 calls. */
    static long sumOf(Maker maker, int interval, int time) {
        KernelGym gym = maker.make();
        long[] words = {gym.state(), gym.fault(), gym.steps(), gym.counter(), gym.stack(), gym.flags(), interval,
            time, gym.register(0), gym.register(1), gym.register(2), gym.register(3), gym.writesLeft()};
        long sum = 7;
        for (long word : words) {
            sum = (31 * sum + word) % 1000003;
        }
        for (int address = 0; address < 256; address++) {
            sum = (31 * sum + gym.memory(address)) % 1000003;
        }
        KernelGym second = maker.make();
        for (int i = 0; i < 256; i++) {
            sum = (31 * sum + second.disk(i / 8, i % 8)) % 1000003;
        }
        KernelGym third = maker.make();
        sum = (31 * sum + third.tape()) % 1000003;
        for (int i = 0; i < third.tape(); i++) {
            sum = (31 * sum + third.tapeAt(i)) % 1000003;
        }
        return sum;
    }

    // ---- all that can be seen of an object, by some 150 calls

    private static void note(List<String> trace, String what, Check.Call call) {
        trace.add(what + " " + answerOf(call));
    }

    static List<String> traceOf(KernelGym gym) {
        List<String> trace = new ArrayList<>();
        askAll(trace, gym);
        debug(trace, gym);
        test(trace, gym);
        startAnew(trace, gym);
        return trace;
    }

    private static void askAll(List<String> trace, KernelGym gym) {
        for (long answer : Check.answersOf(gym)) {
            trace.add("" + answer);
        }
        for (int address : new int[] {0, 1, 8, 9, 10, 11, 12, 13, 14, 15, 16, 17, 255}) {
            note(trace, "image", () -> gym.image(address));
        }
        for (int address : new int[] {0, 1, 8, 199, 200, 201, 253, 254, 255}) {
            note(trace, "changedAt", () -> gym.changedAt(address));
        }
        for (int name = 1; name <= 3; name++) {
            int file = name;
            note(trace, "size", () -> gym.size(file));
            note(trace, "wordOf", () -> gym.wordOf(file, 0));
        }
        for (int parts = 0; parts <= 3; parts++) {
            int steps = gym.steps() * parts / 3;
            note(trace, "sumAnew", () -> gym.sumAnew(steps));
        }
    }

    private static void debug(List<String> trace, KernelGym gym) {
        note(trace, "press", () -> gym.press(77));
        for (int i = 0; i < 3; i++) {
            note(trace, "step", () -> gym.step(6));
            note(trace, "sum", () -> gym.sum());
        }
        note(trace, "back", () -> gym.back(200));
        note(trace, "sum", () -> gym.sum());
        for (int i = 0; i < 4; i++) {
            note(trace, "step", () -> gym.step(31));
            note(trace, "sum", () -> gym.sum());
        }
        note(trace, "written", () -> gym.written());
        note(trace, "crash", () -> gym.crash());
        note(trace, "sum", () -> gym.sum());
    }

    private static void test(List<String> trace, KernelGym gym) {
        note(trace, "testKey", () -> gym.testKey(1));
        note(trace, "testWord", () -> gym.testWord(2));
        note(trace, "addTest", () -> gym.addTest(100, 100, 20, 7));
        note(trace, "submit", () -> gym.submit());
        for (int test = 0; test < 5; test++) {
            int number = test;
            note(trace, "result", () -> gym.result(number));
        }
        note(trace, "mark", () -> gym.mark());
        note(trace, "testKey", () -> gym.testKey(1));
        note(trace, "testWord", () -> gym.testWord(2));
    }

    private static void startAnew(List<String> trace, KernelGym gym) {
        note(trace, "section", () -> gym.section(1));
        note(trace, "use", () -> gym.use(0, NUMBER, 3, LABEL, 0));
        note(trace, "error", () -> gym.error());
        note(trace, "assemble", () -> gym.assemble());
        for (int address = 0; address < 20; address++) {
            int place = address;
            note(trace, "image", () -> gym.image(place));
        }
        note(trace, "start", () -> gym.start());
        note(trace, "step", () -> gym.step(40));
        note(trace, "sum", () -> gym.sum());
        note(trace, "crash", () -> gym.crash());
        note(trace, "format", () -> gym.format());
        note(trace, "written", () -> gym.written());
        note(trace, "clear", () -> gym.clear());
    }

    // ---- states to begin with

    /** A source of so many lines, without words. */
    static KernelGym lines(int lines) {
        KernelGym gym = new KernelGym();
        for (int i = 0; i < lines; i++) {
            gym.section(0);
        }
        return gym;
    }

    static KernelGym lines99() {
        return lines(99);
    }

    static KernelGym lines100() {
        return lines(100);
    }

    /** A source with a macro, a timer, keys, files, the stack and the tape; assembled, but not started. */
    static KernelGym assembled() {
        KernelGym gym = new KernelGym();
        gym.macro(0);
        gym.code(26, 0, 0, KernelGym.FIRST, 0);
        gym.endMacro();
        gym.vector(0, LABEL, 1);
        gym.vector(1, LABEL, 2);
        Check.code(gym, 23, 0, 0, 7, 19, 0, 0, 0, 1, 0, 0, 3);
        gym.use(0, NUMBER, 0, NUMBER, 0);
        gym.label(0);
        Check.code(gym, 4, 1, 1, 1);
        gym.use(0, NUMBER, 1, NUMBER, 0);
        Check.code(gym, 25, 1, 0, 9, 22, 0, 0, 0, 17, 1, 0, 4, 18, 2, 0, 0);
        gym.code(12, 0, 0, LABEL, 0);
        gym.label(1);
        Check.code(gym, 11, 1, 1, 3, 3, 1, 1, 200, 23, 0, 0, 15, 21, 0, 0, 0);
        gym.label(2);
        Check.code(gym, 24, 2, 2, 0, 3, 2, 2, 201, 21, 0, 0, 0);
        gym.assemble();
        return gym;
    }

    /** Tests that were submitted, a draft that has begun, steps, and keys, one of which has not come again. */
    static KernelGym running() {
        KernelGym gym = assembled();
        gym.testKey(5);
        gym.testWord(10);
        gym.addTest(90, 60, 9, 20);
        gym.addTest(30, 60, 7, 0);
        gym.submit();
        gym.testKey(4);
        gym.testWord(65535);
        gym.start();
        gym.step(30);
        gym.press(8);
        gym.step(30);
        gym.press(9);
        gym.back(5);
        return gym;
    }

    /** OFF behind a crash that leaves the log to be mended. */
    static KernelGym crashed() {
        KernelGym gym = assembled();
        gym.start();
        gym.step(6);
        gym.crash();
        return gym;
    }

    /** In the first file call, three of whose four writes are left. */
    static KernelGym calling() {
        KernelGym gym = assembled();
        gym.start();
        gym.step(5);
        return gym;
    }

    static KernelGym halted() {
        return Check.ran(4, 1, 0, 0, 7, 17, 0, 0, 5, 25, 0, 0, 6, 0, 0, 0, 0);
    }

    static KernelGym faulted() {
        return Check.ran(4, 1, 0, 0, 7, 3, 0, 0, 100, 25, 0, 0, 6, 18, 0, 0, 0);
    }
}
