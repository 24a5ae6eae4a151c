import java.util.Random;

/** Runs of calls, found by chance from fixed seeds, on the class and on the model side by side. */
public final class ModelTest {
    private static final int RUNS_OF_EACH_KIND = 700, MOST_CALLS = 512;
    private static final int[] EDGES = {-1, 0, 1, 2, 3, 4, 5, 6, 7, 8, 15, 16, 19, 20, 26, 27, 31, 32, 33, 99, 100,
        101, 199, 200, 201, 255, 256, 500, 501, 65534, 65535, 65536, Integer.MIN_VALUE, Integer.MAX_VALUE};

    private final Random random;
    private final int seed;
    private final KernelGym gym = new KernelGym();
    private final Model model = new Model();
    private int calls;

    private ModelTest(int seed) {
        this.seed = seed;
        random = new Random(seed);
    }

    public static void main(String[] args) {
        int runs = args.length > 0 ? Integer.parseInt(args[0]) : RUNS_OF_EACH_KIND;
        int from = args.length > 1 ? Integer.parseInt(args[1]) : 0;
        for (int seed = from; seed < from + runs; seed++) {
            new ModelTest(seed).runSource();
            new ModelTest(seed).runMachine();
            new ModelTest(seed).runFiles();
            new ModelTest(seed).runTests();
            new ModelTest(seed).runAnything();
        }
        Check.end();
    }

    private static String answerOf(Check.Call call) {
        try {
            return "" + call.make();
        } catch (IllegalArgumentException | IllegalStateException | IndexOutOfBoundsException
                | java.util.NoSuchElementException e) {
            return e.getClass().getName();
        }
    }

    private void both(String what, Check.Call due, Check.Call got) {
        calls++;
        Check.same("seed " + seed + ", call " + calls + ", " + what, answerOf(due), answerOf(got));
    }

    private int upTo(int most) {
        return random.nextInt(most + 1);
    }

    private int pick(int... numbers) {
        return numbers[random.nextInt(numbers.length)];
    }

    // ---- lines

    private void clear() {
        both("clear", () -> model.clear(), () -> gym.clear());
    }

    private void section(int section) {
        both("section " + section, () -> model.section(section), () -> gym.section(section));
    }

    private void label(int label) {
        both("label " + label, () -> model.label(label), () -> gym.label(label));
    }

    private void code(int operation, int d, int s, int kind, int n) {
        both("code " + operation + " " + d + " " + s + " " + kind + " " + n,
            () -> model.code(operation, d, s, kind, n), () -> gym.code(operation, d, s, kind, n));
    }

    private void word(int kind, int n) {
        both("word " + kind + " " + n, () -> model.word(kind, n), () -> gym.word(kind, n));
    }

    private void space(int words) {
        both("space " + words, () -> model.space(words), () -> gym.space(words));
    }

    private void vector(int address, int kind, int n) {
        both("vector " + address + " " + kind + " " + n, () -> model.vector(address, kind, n),
            () -> gym.vector(address, kind, n));
    }

    private void macro(int macro) {
        both("macro " + macro, () -> model.macro(macro), () -> gym.macro(macro));
    }

    private void endMacro() {
        both("endMacro", () -> model.endMacro(), () -> gym.endMacro());
    }

    private void use(int macro, int kind, int n, int kind2, int n2) {
        both("use " + macro + " " + kind + " " + n + " " + kind2 + " " + n2,
            () -> model.use(macro, kind, n, kind2, n2), () -> gym.use(macro, kind, n, kind2, n2));
    }

    private void error() {
        both("error", () -> model.error(), () -> gym.error());
    }

    private void assemble() {
        both("assemble", () -> model.assemble(), () -> gym.assemble());
    }

    private void image(int address) {
        both("image " + address, () -> model.image(address), () -> gym.image(address));
    }

    // ---- the machine

    private void start() {
        both("start", () -> model.start(), () -> gym.start());
    }

    private void crash() {
        both("crash", () -> model.crash(), () -> gym.crash());
    }

    private void format() {
        both("format", () -> model.format(), () -> gym.format());
    }

    private void step(int steps) {
        both("step " + steps, () -> model.step(steps), () -> gym.step(steps));
    }

    private void runTo(int address, int steps) {
        both("runTo " + address + " " + steps, () -> model.runTo(address, steps), () -> gym.runTo(address, steps));
    }

    private void back(int steps) {
        both("back " + steps, () -> model.back(steps), () -> gym.back(steps));
    }

    private void press(int key) {
        both("press " + key, () -> model.press(key), () -> gym.press(key));
    }

    private void changedAt(int address) {
        both("changedAt " + address, () -> model.changedAt(address), () -> gym.changedAt(address));
    }

    private void sum() {
        both("sum", () -> model.sum(), () -> gym.sum());
    }

    private void sumAnew(int steps) {
        both("sumAnew " + steps, () -> model.sumAnew(steps), () -> gym.sumAnew(steps));
    }

    private void size(int name) {
        both("size " + name, () -> model.size(name), () -> gym.size(name));
    }

    private void wordOf(int name, int place) {
        both("wordOf " + name + " " + place, () -> model.wordOf(name, place), () -> gym.wordOf(name, place));
    }

    private void askSmall(int which) {
        switch (which) {
            case 0 -> both("state", () -> model.state(), () -> gym.state());
            case 1 -> both("fault", () -> model.fault(), () -> gym.fault());
            case 2 -> both("steps", () -> model.steps(), () -> gym.steps());
            case 3 -> both("kept", () -> model.kept(), () -> gym.kept());
            case 4 -> both("counter", () -> model.counter(), () -> gym.counter());
            case 5 -> both("stack", () -> model.stack(), () -> gym.stack());
            case 6 -> both("flags", () -> model.flags(), () -> gym.flags());
            case 7 -> both("writesLeft", () -> model.writesLeft(), () -> gym.writesLeft());
            case 8 -> both("tape", () -> model.tape(), () -> gym.tape());
            case 9 -> both("written", () -> model.written(), () -> gym.written());
            case 10 -> both("files", () -> model.files(), () -> gym.files());
            case 11 -> both("freeBlocks", () -> model.freeBlocks(), () -> gym.freeBlocks());
            case 12 -> both("isWhole", () -> model.isWhole() ? 1 : 0, () -> gym.isWhole() ? 1 : 0);
            case 13 -> both("tests", () -> model.tests(), () -> gym.tests());
            case 14 -> both("mark", () -> model.mark(), () -> gym.mark());
            default -> both("lines", () -> model.lines(), () -> gym.lines());
        }
    }

    private void askPlace(int which, int a, int b) {
        switch (which) {
            case 0 -> both("register " + a, () -> model.register(a), () -> gym.register(a));
            case 1 -> both("memory " + a, () -> model.memory(a), () -> gym.memory(a));
            case 2 -> both("tapeAt " + a, () -> model.tapeAt(a), () -> gym.tapeAt(a));
            case 3 -> both("disk " + a + " " + b, () -> model.disk(a, b), () -> gym.disk(a, b));
            case 4 -> changedAt(a);
            case 5 -> size(a);
            case 6 -> wordOf(a, b);
            case 7 -> both("result " + a, () -> model.result(a), () -> gym.result(a));
            case 8 -> image(a);
            default -> sumAnew(a);
        }
    }

    private void testKey(int key) {
        both("testKey " + key, () -> model.testKey(key), () -> gym.testKey(key));
    }

    private void testWord(int word) {
        both("testWord " + word, () -> model.testWord(word), () -> gym.testWord(word));
    }

    private void addTest(int steps, int blocks, int points, int crash) {
        both("addTest " + steps + " " + blocks + " " + points + " " + crash,
            () -> model.addTest(steps, blocks, points, crash), () -> gym.addTest(steps, blocks, points, crash));
    }

    private void submit() {
        both("submit", () -> model.submit(), () -> gym.submit());
        for (int i = 0; i < model.tests(); i++) {
            askPlace(7, i, 0);
        }
        askSmall(14);
    }

    // ---- a source by chance, with labels, sections and macros

    private int kind() {
        return pick(0, 0, 0, 1, 1, 2, 3);
    }

    private int numberOf(int kind) {
        return kind == 1 ? pick(0, 1, 2, 15, 16, 17, 19) : pick(0, 1, 7, 65535, upTo(65535));
    }

    private void lineByChance(int macros) {
        int kind = kind();
        int kind2 = kind();
        switch (upTo(13)) {
            case 0, 1 -> section(upTo(1));
            case 2, 3, 4 -> label(pick(0, 1, 2, 3, 4, 5, 6, 14, 15, 16, 17, 18, 19));
            case 5 -> word(kind, numberOf(kind));
            case 6 -> space(pick(1, 2, 32, 32, upTo(31) + 1));
            case 7 -> vector(upTo(1), kind, numberOf(kind));
            case 8 -> macro(upTo(4));
            case 9 -> endMacro();
            case 10, 11, 12 -> use(upTo(macros), kind, numberOf(kind), kind2, numberOf(kind2));
            default -> code(upTo(26), upTo(3), upTo(3), kind, numberOf(kind));
        }
    }

    /** Lines that are less often wrong: macros are ended, labels set once, arguments named in macros alone. */
    private void orderlySource() {
        int macros = upTo(3);
        int most = 2 + upTo(10);
        for (int macro = 0; macro < macros; macro++) {
            macro(macro);
            int own = 16;
            for (int i = upTo(most); i > 0; i--) {
                int kind = kind();
                int n = kind == 1 ? pick(0, 16, 17) : numberOf(kind);
                switch (upTo(6)) {
                    case 0 -> section(upTo(1));
                    case 1, 2 -> label(own++ > 19 ? 19 : own - 1);
                    case 3 -> vector(upTo(1), kind, n);
                    case 4 -> use(macro > 0 ? upTo(macro - 1) : 0, kind, n, pick(0, 2, 3), upTo(65535));
                    default -> word(kind, n);
                }
            }
            endMacro();
        }
        for (int label = 0; label < 20; label++) {
            if (upTo(9) > 0) {
                label(label);
            }
            int kind = pick(0, 1);
            int n = kind == 1 ? upTo(19) : upTo(65535);
            switch (upTo(3)) {
                case 0 -> section(upTo(1));
                case 1 -> word(kind, n);
                case 2 -> use(upTo(Math.max(0, macros - 1)), kind, n, pick(0, 1), upTo(19));
                default -> code(upTo(26), upTo(3), upTo(3), kind, n);
            }
        }
    }

    private void runSource() {
        while (calls < MOST_CALLS - 140) {
            if (upTo(3) == 0) {
                for (int i = upTo(25); i >= 0; i--) {
                    lineByChance(4);
                    error();
                }
            } else {
                orderlySource();
                for (int i = upTo(60); i > 0 && upTo(3) == 0; i--) {
                    lineByChance(2);
                }
            }
            error();
            assemble();
            for (int i = 0; i < 6; i++) {
                image(pick(0, 1, 8, 9, upTo(40), upTo(255)));
            }
            start();
            sum();
            crash();
            clear();
        }
    }

    // ---- a machine by chance

    private void instructions(int count) {
        for (int i = 0; i < count; i++) {
            int operation = pick(1, 1, 2, 3, 3, 4, 5, 6, 7, 8, 9, 10, 11, 13, 14, 15, 16, 17, 17, 18, 19, 19, 20, 21,
                22, 23, 24, 24, 25, 26, 26, upTo(26));
            int n = operation == 26 ? upTo(7) : operation == 23 ? upTo(9) : operation == 2 || operation == 3
                ? pick(upTo(255), 0, 1, 200, 255, 256) : pick(0, 1, 2, 3, 8, 40, 255, 65535, upTo(65535));
            boolean jump = operation >= 12 && operation <= 15;
            code(operation, upTo(3), upTo(3), jump ? 1 : 0, jump ? upTo(5) : n);
            if (i % 4 == 0 && i / 4 < 6) {
                label(i / 4);
            }
        }
    }

    private void program() {
        clear();
        vector(0, 1, upTo(5));
        vector(1, 1, upTo(5));
        if (upTo(1) == 0) {
            code(23, 0, 0, 0, 1 + upTo(12));
        }
        if (upTo(1) == 0) {
            code(19, 0, 0, 0, 0);
        }
        instructions(24 + upTo(20));
        code(12, 0, 0, 1, upTo(5));
        assemble();
    }

    private void oneOfTheDebugger() {
        switch (upTo(13)) {
            case 0, 1, 2 -> step(pick(1, 1, 2, 3, 10, 100));
            case 3 -> step(1 + upTo(99));
            case 4 -> back(pick(1, 1, 2, 5, 200, 1 + upTo(199)));
            case 5 -> press(upTo(9));
            case 6 -> runTo(8 + 2 * upTo(40), 1 + upTo(99));
            case 7 -> changedAt(pick(255, 254, 253, 200, 0, 1, upTo(255)));
            case 8 -> sumAnew(upTo(Math.max(0, model.steps())));
            case 9 -> sumAnew(model.steps());
            case 10 -> askPlace(upTo(4), upTo(20), upTo(7));
            case 11 -> askPlace(3, upTo(31), upTo(7));
            default -> askSmall(upTo(12));
        }
        sum();
    }

    private void runMachine() {
        while (calls < MOST_CALLS - 120) {
            program();
            start();
            for (int i = 5 + upTo(40); i > 0 && calls < MOST_CALLS - 10; i--) {
                oneOfTheDebugger();
            }
            crash();
            if (upTo(4) == 0) {
                format();
            }
        }
    }

    // ---- files by chance

    private void fileProgram() {
        clear();
        label(0);
        for (int i = 0; i < 14; i++) {
            code(1, 0, 0, 0, upTo(7));
            if (upTo(2) > 0) {
                code(1, 1, 1, 0, pick(upTo(8), upTo(16), upTo(65535)));
            }
            code(26, 0, 0, 0, pick(0, 0, 1, 1, 1, 1, 1, 2, 3, 4, 5, 6, 6, upTo(8)));
            if (upTo(3) == 0) {
                code(25, 0, 3, 0, 0);
            }
            if (upTo(9) == 0) {
                code(4, 2, 2, 0, upTo(65535));
            }
        }
        code(12, 0, 0, 1, 0);
        assemble();
    }

    private void runFiles() {
        while (calls < MOST_CALLS - 160) {
            fileProgram();
            for (int starts = upTo(4); starts >= 0; starts--) {
                start();
                for (int i = upTo(12); i >= 0 && calls < MOST_CALLS - 20; i--) {
                    switch (upTo(8)) {
                        case 0, 1 -> step(1 + upTo(99));
                        case 2 -> step(1 + upTo(9));
                        case 3 -> back(1 + upTo(30));
                        case 4 -> size(1 + upTo(7));
                        case 5 -> wordOf(1 + upTo(7), upTo(16));
                        case 6 -> askSmall(pick(7, 9, 10, 11, 12));
                        case 7 -> askPlace(3, upTo(11), upTo(7));
                        default -> sumAnew(model.steps());
                    }
                    sum();
                }
                crash();
                askSmall(12);
            }
        }
    }

    // ---- tests by chance

    private void testProgram() {
        clear();
        for (int i = upTo(8); i >= 0; i--) {
            switch (upTo(6)) {
                case 0 -> code(25, 0, 0, 0, upTo(3));
                case 1 -> code(24, 0, 0, 0, 0);
                case 2 -> code(25, 0, 3, 0, 0);
                case 3 -> code(25, 1, 0, 0, 0);
                case 4 -> code(22, 0, 0, 0, 0);
                case 5 -> code(1, 0, 0, 0, upTo(2));
                default -> code(26, 0, 0, 0, upTo(6));
            }
        }
        code(0, 0, 0, 0, upTo(3));
        assemble();
    }

    private void runTests() {
        testProgram();
        while (calls < MOST_CALLS - 50) {
            if (upTo(3) == 0) {
                testProgram();
            }
            switch (upTo(4)) {
                case 0 -> testKey(upTo(3));
                case 1 -> testWord(pick(0, 1, 2, 3, 65535));
                case 2 -> addTest(pick(500, 500, 1 + upTo(30)), pick(100, upTo(12)), 1 + upTo(19),
                    pick(0, 1 + upTo(12)));
                case 3 -> submit();
                default -> {
                    start();
                    step(5);
                    submit();
                    sum();
                    back(2);
                    sum();
                    crash();
                }
            }
        }
    }

    // ---- calls with any arguments

    private int edge() {
        return EDGES[random.nextInt(EDGES.length)];
    }

    private void anyCall() {
        switch (upTo(21)) {
            case 0 -> section(edge());
            case 1 -> label(edge());
            case 2 -> code(pick(edge(), upTo(26)), pick(edge(), upTo(3)), upTo(3), pick(0, 0, edge()), edge());
            case 3 -> code(upTo(26), upTo(3), pick(edge(), upTo(3)), upTo(3), edge());
            case 4 -> word(pick(edge(), upTo(3)), edge());
            case 5 -> space(edge());
            case 6 -> vector(pick(edge(), 0, 1), pick(edge(), upTo(3)), edge());
            case 7 -> macro(edge());
            case 8 -> use(pick(edge(), upTo(4)), pick(edge(), upTo(3)), edge(), pick(edge(), upTo(3)), edge());
            case 9 -> step(edge());
            case 10 -> runTo(edge(), edge());
            case 11 -> back(edge());
            case 12 -> press(edge());
            case 13 -> askPlace(upTo(9), edge(), edge());
            case 14 -> addTest(pick(edge(), 5), pick(edge(), 5), pick(edge(), 5), pick(edge(), 5));
            case 15 -> testKey(edge());
            case 16 -> testWord(edge());
            case 17 -> {
                endMacro();
                error();
            }
            case 18 -> {
                start();
                sum();
            }
            case 19 -> {
                crash();
                format();
            }
            case 20 -> {
                if (upTo(3) == 0) {
                    program();
                } else if (upTo(3) == 0) {
                    clear();
                }
                assemble();
            }
            default -> submit();
        }
    }

    private void runAnything() {
        while (calls < MOST_CALLS - 80) {
            anyCall();
            askSmall(upTo(15));
        }
        sum();
    }
}
