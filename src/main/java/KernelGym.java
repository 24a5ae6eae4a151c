import java.util.Arrays;
import java.util.NoSuchElementException;

/**
 * A teaching machine: source lines that are assembled, a processor with interrupts, files on a disk that
 * is changed by a log, a debugger that takes steps back, and tests with a mark.
 *
 * The outer class looks at the arguments and throws; the classes inside it do the work and never throw.
 */
public final class KernelGym {
    public static final int NUMBER = 0, LABEL = 1, FIRST = 2, SECOND = 3;
    public static final int TOO_LONG = 1, LABEL_TWICE = 2, MACRO_TWICE = 3, NESTED = 4, MACRO_MISSING = 5,
        LABEL_MISSING = 6, NO_ARGUMENT = 7;
    public static final int OFF = 0, RUNS = 1, HALTED = 2, FAULTED = 3;
    public static final int BAD_ADDRESS = 1, BAD_OPERATION = 2, BAD_STACK = 3, TAPE_FULL = 4;
    public static final int PASSED = 0, FAILED_BY_FAULT = 1, SLOW = 2, GREEDY = 3, WRONG = 4, UNSOUND = 5;

    private static final int HIGHEST_WORD = 65535, HIGHEST_LABEL = 19, HIGHEST_MACRO = 4;
    private static final int MEMORY_WORDS = 256, TAPE_WORDS = 60, REGISTERS = 4;
    private static final int BLOCKS = 32, BLOCK_WORDS = 8, DISK_WORDS = BLOCKS * BLOCK_WORDS;
    private static final int MOST_KEPT = 200, MOST_KEYS = 20, MOST_TESTS = 5, MOST_IN_DRAFT = 6;
    private static final int NOWHERE = -1, NOT_MADE = -1;

    private final Assembler assembler = new Assembler();
    private final int[] image = new int[MEMORY_WORDS];
    private boolean assembled;

    private final Machine machine = new Machine();
    private final Kept[] keptSteps = new Kept[MOST_KEPT];
    private int keptCount;
    private final int[] imageAtStart = new int[MEMORY_WORDS];
    private final int[] diskAtStart = new int[DISK_WORDS];

    /** Makes steps anew and makes tests, so that the machine itself stays as it is. */
    private final Machine spare = new Machine();
    private final Kept spareKept = new Kept();

    private final Trial draft = new Trial();
    private final Trial[] trials = new Trial[MOST_TESTS];
    private int trialCount;

    public KernelGym() {
        for (int i = 0; i < MOST_KEPT; i++) {
            keptSteps[i] = new Kept();
        }
        for (int i = 0; i < MOST_TESTS; i++) {
            trials[i] = new Trial();
        }
    }

    // ---- the source

    public int clear() {
        return assembler.removeLines();
    }

    public int lines() {
        return assembler.lineCount;
    }

    public int section(int section) throws IllegalArgumentException, IllegalStateException {
        requireRange(section, 0, 1);
        return addLine(Does.SECTION, section);
    }

    public int label(int label) throws IllegalArgumentException, IllegalStateException {
        requireRange(label, 0, HIGHEST_LABEL);
        return addLine(Does.LABEL, label);
    }

    public int code(int operation, int d, int s, int kind, int n)
            throws IllegalArgumentException, IllegalStateException {
        requireRange(operation, 0, Machine.HIGHEST_OPERATION);
        requireRange(d, 0, REGISTERS - 1);
        requireRange(s, 0, REGISTERS - 1);
        requireOperand(kind, n);
        return addLine(Does.CODE, 16 * operation + 4 * d + s, kind, n);
    }

    public int word(int kind, int n) throws IllegalArgumentException, IllegalStateException {
        requireOperand(kind, n);
        return addLine(Does.WORD, 0, kind, n);
    }

    public int space(int words) throws IllegalArgumentException, IllegalStateException {
        requireRange(words, 1, 32);
        return addLine(Does.SPACE, words);
    }

    public int vector(int address, int kind, int n) throws IllegalArgumentException, IllegalStateException {
        requireRange(address, 0, 1);
        requireOperand(kind, n);
        return addLine(Does.VECTOR, address, kind, n);
    }

    public int macro(int macro) throws IllegalArgumentException, IllegalStateException {
        requireRange(macro, 0, HIGHEST_MACRO);
        return addLine(Does.MACRO, macro);
    }

    public int endMacro() throws IllegalStateException {
        return addLine(Does.END_MACRO, 0);
    }

    public int use(int macro, int kind, int n, int kind2, int n2)
            throws IllegalArgumentException, IllegalStateException {
        requireRange(macro, 0, HIGHEST_MACRO);
        requireOperand(kind, n);
        requireOperand(kind2, n2);
        int lines = addLine(Does.USE, macro, kind, n);
        assembler.setSecondOperand(kind2, n2);
        return lines;
    }

    public int error() {
        return assembler.findError();
    }

    public int assemble() throws IllegalStateException {
        if (assembler.findError() != 0) {
            throw new IllegalStateException("the source has an error");
        }
        System.arraycopy(assembler.image, 0, image, 0, MEMORY_WORDS);
        assembled = true;
        return assembler.wordsTogether();
    }

    public int image(int address) throws IllegalArgumentException, IllegalStateException {
        requireRange(address, 0, MEMORY_WORDS - 1);
        requireAssembled();
        return image[address];
    }

    private static void requireRange(int number, int least, int most) {
        if (number < least || number > most) {
            throw new IllegalArgumentException("a parameter is out of range");
        }
    }

    private static void requireOperand(int kind, int n) {
        requireRange(kind, NUMBER, SECOND);
        requireRange(n, 0, kind == LABEL ? HIGHEST_LABEL : HIGHEST_WORD);
    }

    private void requireAssembled() {
        if (!assembled) {
            throw new IllegalStateException("nothing was assembled");
        }
    }

    private int addLine(Does does, int number) {
        return addLine(does, number, NUMBER, 0);
    }

    private int addLine(Does does, int number, int kind, int n) {
        if (assembler.lineCount >= Assembler.MOST_LINES) {
            throw new IllegalStateException("the source has 100 lines");
        }
        return assembler.add(does, number, kind, n);
    }

    // ---- the machine

    public int start() throws IllegalStateException {
        if (machine.core.state != OFF) {
            throw new IllegalStateException("the machine is on");
        }
        requireAssembled();
        machine.keys.forget();
        int mended = machine.turnOn(image);
        System.arraycopy(image, 0, imageAtStart, 0, MEMORY_WORDS);
        System.arraycopy(machine.disk.words, 0, diskAtStart, 0, DISK_WORDS);
        return mended;
    }

    public int crash() throws IllegalStateException {
        requireOn();
        int steps = machine.core.steps;
        keptCount = 0;
        machine.turnOff();
        return steps;
    }

    public int format() throws IllegalStateException {
        if (machine.core.state != OFF) {
            throw new IllegalStateException("the machine is on");
        }
        int files = machine.disk.countFiles();
        machine.disk.erase();
        return files;
    }

    public int step(int steps) throws IllegalArgumentException, IllegalStateException {
        requireRange(steps, 1, 100);
        requireOn();
        return makeSteps(steps, NOWHERE);
    }

    public int runTo(int address, int steps) throws IllegalArgumentException, IllegalStateException {
        requireRange(address, 0, MEMORY_WORDS - 1);
        requireRange(steps, 1, 100);
        requireOn();
        return makeSteps(steps, address);
    }

    public int back(int steps) throws IllegalArgumentException, IllegalStateException {
        requireRange(steps, 1, MOST_KEPT);
        requireOn();
        int taken = 0;
        while (taken < steps && keptCount > 0) {
            machine.takeBack(keptStep(machine.core.steps - 1));
            keptCount--;
            taken++;
        }
        return taken;
    }

    public int press(int key) throws IllegalArgumentException, IllegalStateException {
        requireRange(key, 0, HIGHEST_WORD);
        if (machine.core.state != RUNS) {
            throw new IllegalStateException("the machine does not run");
        }
        if (machine.keys.count >= MOST_KEYS) {
            throw new IllegalStateException("20 keys were told since the start");
        }
        machine.keys.tell(key, machine.core.steps);
        machine.letKeysCome();
        return machine.keys.count;
    }

    public int state() {
        return machine.core.state;
    }

    public int fault() {
        return machine.core.fault;
    }

    public int steps() {
        return machine.core.steps;
    }

    public int kept() {
        return keptCount;
    }

    public int counter() {
        return machine.core.counter;
    }

    public int stack() {
        return machine.core.stack;
    }

    public int flags() {
        return machine.core.allFlags();
    }

    public int writesLeft() {
        return machine.core.call.left();
    }

    public int register(int register) throws IllegalArgumentException {
        requireRange(register, 0, REGISTERS - 1);
        return machine.core.registers[register];
    }

    public int memory(int address) throws IllegalArgumentException {
        requireRange(address, 0, MEMORY_WORDS - 1);
        return machine.memory[address];
    }

    public int changedAt(int address) throws IllegalArgumentException {
        requireRange(address, 0, MEMORY_WORDS - 1);
        int steps = machine.core.steps;
        for (int ahead = steps - 1; ahead >= steps - keptCount; ahead--) {
            if (keptStep(ahead).hasWritten(address)) {
                return ahead;
            }
        }
        return NOT_MADE;
    }

    public int tape() {
        return machine.core.tapeCount;
    }

    public int tapeAt(int index) throws IndexOutOfBoundsException {
        if (index < 0 || index >= machine.core.tapeCount || index >= TAPE_WORDS) {
            throw new IndexOutOfBoundsException("the tape has not so many words");
        }
        return machine.tape[index];
    }

    public int sum() {
        return machine.sumOfAll();
    }

    public int sumAnew(int steps) throws IllegalStateException, IllegalArgumentException {
        requireOn();
        requireRange(steps, 0, machine.core.steps);
        System.arraycopy(diskAtStart, 0, spare.disk.words, 0, DISK_WORDS);
        spare.keys.copyFrom(machine.keys);
        spare.turnOn(imageAtStart);
        for (int made = 0; made < steps && spare.canStep(); made++) {
            spare.makeStep(spareKept);
        }
        return spare.sumOfAll();
    }

    private void requireOn() {
        if (machine.core.state == OFF) {
            throw new IllegalStateException("the machine is off");
        }
    }

    private int makeSteps(int most, int address) {
        int made = 0;
        boolean there = false;
        while (made < most && !there && machine.canStep()) {
            machine.makeStep(keptStep(machine.core.steps));
            keptCount = Math.min(keptCount + 1, MOST_KEPT);
            made++;
            there = machine.core.counter == address && machine.core.call.left() == 0;
        }
        return made;
    }

    /** Where the step is kept ahead of which so many steps had been made; 200 steps later it is used again. */
    private Kept keptStep(int stepsAhead) {
        return keptSteps[Math.floorMod(stepsAhead, MOST_KEPT)];
    }

    // ---- the disk, as it lies there

    public int written() {
        return machine.disk.written;
    }

    public int disk(int block, int place) throws IllegalArgumentException {
        requireRange(block, 0, BLOCKS - 1);
        requireRange(place, 0, BLOCK_WORDS - 1);
        return machine.disk.wordAt(block, place);
    }

    public int files() {
        return machine.disk.countFiles();
    }

    public int size(int name) throws IllegalArgumentException, NoSuchElementException {
        return machine.disk.entryWord(requireFile(name), Disk.SIZE);
    }

    public int wordOf(int name, int place)
            throws IllegalArgumentException, NoSuchElementException, IndexOutOfBoundsException {
        int entry = requireFile(name);
        if (place < 0 || place >= machine.disk.entryWord(entry, Disk.SIZE)) {
            throw new IndexOutOfBoundsException("the file has not so many words");
        }
        return machine.disk.fileWord(entry, place);
    }

    public int freeBlocks() {
        return machine.disk.countFreeBlocks();
    }

    public boolean isWhole() {
        return machine.disk.isSound();
    }

    private int requireFile(int name) {
        requireRange(name, 1, HIGHEST_WORD);
        int entry = machine.disk.entryOf(name);
        if (entry < 0) {
            throw new NoSuchElementException("no entry has this name");
        }
        return entry;
    }

    // ---- tests

    public int testKey(int key) throws IllegalArgumentException, IllegalStateException {
        requireRange(key, 0, HIGHEST_WORD);
        if (draft.keyCount >= MOST_IN_DRAFT) {
            throw new IllegalStateException("the draft has 6 keys");
        }
        return draft.addKey(key);
    }

    public int testWord(int word) throws IllegalArgumentException, IllegalStateException {
        requireRange(word, 0, HIGHEST_WORD);
        if (draft.wordCount >= MOST_IN_DRAFT) {
            throw new IllegalStateException("the draft has 6 words");
        }
        return draft.addWord(word);
    }

    public int addTest(int steps, int blocks, int points, int crash)
            throws IllegalArgumentException, IllegalStateException {
        requireRange(steps, 1, 500);
        requireRange(blocks, 0, 100);
        requireRange(points, 1, 20);
        requireRange(crash, 0, 500);
        if (trialCount >= MOST_TESTS) {
            throw new IllegalStateException("there are 5 tests");
        }
        Trial trial = trials[trialCount];
        trial.takeDraft(draft);
        trial.setBudgets(steps, blocks, points, crash);
        trialCount++;
        return trialCount - 1;
    }

    public int tests() {
        return trialCount;
    }

    public int submit() throws IllegalStateException {
        requireAssembled();
        int passed = 0;
        for (int i = 0; i < trialCount && i < MOST_TESTS; i++) {
            Trial trial = trials[i];
            trial.makeOn(spare, image, spareKept);
            if (trial.result == PASSED) {
                passed++;
            }
        }
        return passed;
    }

    public int result(int test) throws IndexOutOfBoundsException {
        if (test < 0 || test >= trialCount || test >= MOST_TESTS) {
            throw new IndexOutOfBoundsException("there is no such test");
        }
        return trials[test].result;
    }

    public int mark() {
        int mark = 0;
        for (int i = 0; i < trialCount && i < MOST_TESTS; i++) {
            mark += trials[i].share();
        }
        return Math.max(mark, 0);
    }

    /** What a line of the source does. */
    private enum Does { SECTION, LABEL, CODE, WORD, SPACE, VECTOR, MACRO, END_MACRO, USE }

    /** A line of the source; its number is a section, label, first word of an instruction, macro and so on. */
    private static final class Line {
        Does does = Does.SECTION;
        int number;
        int kind;
        int n;
        int kind2;
        int n2;
    }

    /** The source, and the two times that its lines are gone through. */
    private static final class Assembler {
        static final int MOST_LINES = 100;
        private static final int MOST_GONE_THROUGH = 300, MOST_WORDS = 248, FIRST_ADDRESS = 8;
        private static final int MACROS = HIGHEST_MACRO + 1, OWN_LABELS = 4, FIRST_OWN_LABEL = 16;
        private static final int UNSET = -1, OUTSIDE = 0;

        int lineCount;
        /** What comes of the source, if findError() has found none. */
        final int[] image = new int[MEMORY_WORDS];

        private final Line[] lines = new Line[MOST_LINES];
        private final int[] macroBegin = new int[MACROS];
        private final int[] macroEnd = new int[MACROS];
        private final boolean[] macroBusy = new boolean[MACROS];
        /** Labels 0 to 15 have a slot each; 16 to 19 have four for outside of macros, and four for each use. */
        private final int[] labelSection = new int[FIRST_OWN_LABEL + OWN_LABELS * (MOST_GONE_THROUGH + 1)];
        private final int[] labelPlace = new int[FIRST_OWN_LABEL + OWN_LABELS * (MOST_GONE_THROUGH + 1)];
        private final int[] firstArgument = new int[MOST_GONE_THROUGH + 1];
        private final int[] secondArgument = new int[MOST_GONE_THROUGH + 1];
        private final int[] sectionWords = new int[2];
        private final int[] sectionBegin = new int[2];
        private boolean isSecondTime;
        private int goneThrough;
        private int uses;
        private int section;

        Assembler() {
            for (int i = 0; i < MOST_LINES; i++) {
                lines[i] = new Line();
            }
        }

        int removeLines() {
            int removed = lineCount;
            lineCount = 0;
            return removed;
        }

        int add(Does does, int number, int kind, int n) {
            if (lineCount < MOST_LINES) {
                Line line = lines[lineCount];
                line.does = does;
                line.number = number;
                line.kind = kind;
                line.n = n;
                line.kind2 = NUMBER;
                line.n2 = 0;
                lineCount++;
            }
            return lineCount;
        }

        void setSecondOperand(int kind2, int n2) {
            if (lineCount > 0 && lineCount <= MOST_LINES) {
                Line line = lines[lineCount - 1];
                line.kind2 = kind2;
                line.n2 = n2;
            }
        }

        int wordsTogether() {
            return sectionWords[0] + sectionWords[1];
        }

        /** Goes through the source twice; answers 100 times the error, plus the number of its line, or 0. */
        int findError() {
            Arrays.fill(macroBegin, UNSET);
            Arrays.fill(labelPlace, UNSET);
            beginTime(false);
            int error = goThrough(0, lineCount, OUTSIDE, 0);
            if (error != 0) {
                return error;
            }
            sectionBegin[0] = FIRST_ADDRESS;
            sectionBegin[1] = FIRST_ADDRESS + sectionWords[0];
            beginTime(true);
            return goThrough(0, lineCount, OUTSIDE, 0);
        }

        private void beginTime(boolean second) {
            isSecondTime = second;
            goneThrough = 0;
            uses = 0;
            section = 0;
            Arrays.fill(sectionWords, 0);
            Arrays.fill(image, 0);
        }

        private static int errorAt(int error, int line) {
            return 100 * error + line;
        }

        /** Goes through the lines of one use of a macro, or those outside; macros in macros go at most five deep. */
        private int goThrough(int from, int end, int use, int depth) {
            for (int i = Math.max(from, 0); i < end && i < MOST_LINES; i++) {
                Line line = lines[i];
                int error = isSecondTime ? secondTime(line, i, use) : firstTime(line, i, use);
                if (error == 0 && line.does == Does.USE && depth < MACROS) {
                    error = goThroughMacro(line.number, depth);
                }
                if (error != 0) {
                    return error;
                }
                if (line.does == Does.MACRO && line.number >= 0 && line.number < MACROS) {
                    i = Math.max(i, macroEnd[line.number]);
                }
            }
            return 0;
        }

        private int goThroughMacro(int macro, int depth) {
            if (macro < 0 || macro >= MACROS) {
                return 0;
            }
            uses++;
            macroBusy[macro] = true;
            int error = goThrough(macroBegin[macro] + 1, macroEnd[macro], uses, depth + 1);
            macroBusy[macro] = false;
            return error;
        }

        private int firstTime(Line line, int at, int use) {
            goneThrough++;
            if (goneThrough > MOST_GONE_THROUGH) {
                return errorAt(TOO_LONG, at);
            }
            switch (line.does) {
                case SECTION:
                    section = line.number;
                    return 0;
                case LABEL:
                    return setLabel(line.number, use) ? 0 : errorAt(LABEL_TWICE, at);
                case CODE:
                case WORD:
                case SPACE:
                    return growBy(wordsOf(line)) ? 0 : errorAt(TOO_LONG, at);
                case MACRO:
                    return beginMacro(line.number, at);
                case END_MACRO:
                    return errorAt(NESTED, at);
                case USE:
                    return canUse(line.number) ? 0 : errorAt(MACRO_MISSING, at);
                default:
                    return 0;
            }
        }

        private static int wordsOf(Line line) {
            return line.does == Does.CODE ? 2 : line.does == Does.WORD ? 1 : line.number;
        }

        private boolean growBy(int words) {
            if (section >= 0 && section < sectionWords.length) {
                sectionWords[section] += words;
            }
            return wordsTogether() <= MOST_WORDS;
        }

        private static int slotOf(int label, int use) {
            return label < FIRST_OWN_LABEL ? label : label + OWN_LABELS * use;
        }

        private boolean setLabel(int label, int use) {
            int slot = slotOf(label, use);
            if (slot < 0 || slot >= labelPlace.length || labelPlace[slot] != UNSET) {
                return false;
            }
            if (section >= 0 && section < sectionWords.length) {
                labelSection[slot] = section;
                labelPlace[slot] = sectionWords[section];
            }
            return true;
        }

        private int beginMacro(int macro, int at) {
            if (macro < 0 || macro >= MACROS || macroBegin[macro] != UNSET) {
                return errorAt(MACRO_TWICE, at);
            }
            for (int i = at + 1; i < lineCount && i < MOST_LINES; i++) {
                Does does = lines[i].does;
                if (does == Does.MACRO) {
                    return errorAt(NESTED, i);
                }
                if (does == Does.END_MACRO) {
                    macroBegin[macro] = at;
                    macroEnd[macro] = i;
                    return 0;
                }
            }
            return errorAt(NESTED, at);
        }

        private boolean canUse(int macro) {
            return macro >= 0 && macro < MACROS && macroBegin[macro] != UNSET && !macroBusy[macro];
        }

        private int secondTime(Line line, int at, int use) {
            switch (line.does) {
                case SECTION:
                    section = line.number;
                    return 0;
                case SPACE:
                    growBy(line.number);
                    return 0;
                case CODE:
                case WORD:
                case VECTOR:
                case USE:
                    return useOperands(line, at, use);
                default:
                    return 0;
            }
        }

        private int useOperands(Line line, int at, int use) {
            int value = valueOf(line.kind, line.n, use);
            int error = errorOf(line.kind, value);
            if (error == 0 && line.does == Does.USE) {
                int value2 = valueOf(line.kind2, line.n2, use);
                error = errorOf(line.kind2, value2);
                setArguments(uses + 1, value, value2);
            }
            if (error != 0) {
                return errorAt(error, at);
            }
            if (line.does == Does.VECTOR) {
                putWord(line.number, value);
            }
            if (line.does == Does.CODE) {
                putAtEnd(line.number);
            }
            if (line.does == Does.CODE || line.does == Does.WORD) {
                putAtEnd(value);
            }
            return 0;
        }

        /** Answers what an operand means there; UNSET, if that is an error. */
        private int valueOf(int kind, int n, int use) {
            if (kind == NUMBER) {
                return n;
            }
            if (kind == LABEL) {
                return addressOf(slotOf(n, use));
            }
            if (use <= OUTSIDE || use > MOST_GONE_THROUGH) {
                return UNSET;
            }
            int argument = kind == FIRST ? firstArgument[use] : secondArgument[use];
            return (argument + n) & HIGHEST_WORD;
        }

        private static int errorOf(int kind, int value) {
            return value != UNSET ? 0 : kind == LABEL ? LABEL_MISSING : NO_ARGUMENT;
        }

        private int addressOf(int slot) {
            if (slot < 0 || slot >= labelPlace.length || labelPlace[slot] == UNSET) {
                return UNSET;
            }
            return (labelSection[slot] == 0 ? sectionBegin[0] : sectionBegin[1]) + labelPlace[slot];
        }

        private void setArguments(int use, int first, int second) {
            if (use > OUTSIDE && use <= MOST_GONE_THROUGH) {
                firstArgument[use] = first;
                secondArgument[use] = second;
            }
        }

        private void putAtEnd(int word) {
            if (section >= 0 && section < sectionWords.length) {
                putWord(sectionBegin[section] + sectionWords[section], word);
                sectionWords[section]++;
            }
        }

        private void putWord(int address, int word) {
            if (address >= 0 && address < MEMORY_WORDS) {
                image[address] = word;
            }
        }
    }

    /** The blocks that a file call changes, as they will be, by rising numbers, and how many writes it has made. */
    private static final class FileCall {
        static final int MOST_BLOCKS = 3;
        int count;
        int done;
        final int[] numbers = new int[MOST_BLOCKS];
        final int[] words = new int[MOST_BLOCKS * BLOCK_WORDS];

        void forget() {
            count = 0;
            done = 0;
        }

        void copyFrom(FileCall other) {
            count = other.count;
            done = other.done;
            if (count > 0) {
                System.arraycopy(other.numbers, 0, numbers, 0, numbers.length);
                System.arraycopy(other.words, 0, words, 0, words.length);
            }
        }

        /** Each block is written twice, and the head twice. */
        int left() {
            return count == 0 ? 0 : 2 * count + 2 - done;
        }

        void addBlock(int number, int[] from, int begin) {
            if (count < MOST_BLOCKS && begin >= 0 && begin + BLOCK_WORDS <= from.length) {
                numbers[count] = number;
                System.arraycopy(from, begin, words, count * BLOCK_WORDS, BLOCK_WORDS);
                count++;
            }
        }

        void fillHead(int[] head) {
            if (head.length != BLOCK_WORDS) {
                return;
            }
            Arrays.fill(head, 0);
            head[0] = count;
            int check = count;
            for (int i = 0; i < count && i < MOST_BLOCKS; i++) {
                head[1 + i] = numbers[i];
                check += numbers[i];
            }
            for (int i = 0; i < count * BLOCK_WORDS && i < words.length; i++) {
                check += words[i];
            }
            head[Disk.CHECK] = check & HIGHEST_WORD;
        }
    }

    /** The disk, and what its words mean. */
    private static final class Disk {
        static final int HEAD = 0, LOG = 1, MAP = 4, DIRECTORY = 5, DATA = 8;
        static final int CHECK = 4;
        /** The places of the map's and the directory's first words, among all words of the disk. */
        static final int MAP_BEGIN = MAP * BLOCK_WORDS, DIRECTORY_BEGIN = DIRECTORY * BLOCK_WORDS;
        static final int MAP_BITS = 16;
        static final int ENTRIES = 6, ENTRY_WORDS = 4;
        static final int NAME = 0, SIZE = 1, FIRST_BLOCK = 2, SECOND_BLOCK = 3;
        static final int MOST_IN_FILE = 2 * BLOCK_WORDS;
        private static final int USED_ALWAYS = 255;

        final int[] words = new int[DISK_WORDS];
        int written;

        Disk() {
            words[MAP_BEGIN] = USED_ALWAYS;
        }

        void erase() {
            Arrays.fill(words, 0);
            words[MAP_BEGIN] = USED_ALWAYS;
            written = 0;
        }

        int wordAt(int block, int place) {
            boolean there = block >= 0 && block < BLOCKS && place >= 0 && place < BLOCK_WORDS;
            return there ? words[block * BLOCK_WORDS + place] : 0;
        }

        void writeBlock(int block, int[] from, int begin) {
            if (block >= 0 && block < BLOCKS && begin >= 0 && begin + BLOCK_WORDS <= from.length) {
                System.arraycopy(from, begin, words, block * BLOCK_WORDS, BLOCK_WORDS);
                written++;
            }
        }

        /** Takes a write of a block back. */
        void unwriteBlock(int block, int[] before) {
            if (block >= 0 && block < BLOCKS && before.length >= BLOCK_WORDS) {
                System.arraycopy(before, 0, words, block * BLOCK_WORDS, BLOCK_WORDS);
                written--;
            }
        }

        /** Finishes what the log tells; answers how many blocks were written. */
        int mend() {
            int count = wordAt(HEAD, 0);
            if (count == 0) {
                return 0;
            }
            int mended = 1;
            if (count <= FileCall.MOST_BLOCKS && wordAt(HEAD, CHECK) == checkOfLog(count)) {
                for (int i = 0; i < count; i++) {
                    writeBlock(wordAt(HEAD, 1 + i), words, (LOG + i) * BLOCK_WORDS);
                }
                mended += count;
            }
            for (int place = 0; place < BLOCK_WORDS; place++) {
                words[HEAD * BLOCK_WORDS + place] = 0;
            }
            written++;
            return mended;
        }

        private int checkOfLog(int count) {
            int check = 0;
            for (int place = 0; place < CHECK; place++) {
                check += wordAt(HEAD, place);
            }
            for (int i = 0; i < count * BLOCK_WORDS; i++) {
                check += wordAt(LOG + i / BLOCK_WORDS, i % BLOCK_WORDS);
            }
            return check & HIGHEST_WORD;
        }

        int entryWord(int entry, int which) {
            boolean there = entry >= 0 && entry < ENTRIES && which >= 0 && which < ENTRY_WORDS;
            return there ? words[DIRECTORY_BEGIN + entry * ENTRY_WORDS + which] : 0;
        }

        /** Answers the first entry with this name, the first free one for 0, or -1. */
        int entryOf(int name) {
            for (int entry = 0; entry < ENTRIES; entry++) {
                if (entryWord(entry, NAME) == name) {
                    return entry;
                }
            }
            return -1;
        }

        int countFiles() {
            int files = 0;
            for (int entry = 0; entry < ENTRIES; entry++) {
                if (entryWord(entry, NAME) != 0) {
                    files++;
                }
            }
            return files;
        }

        /** Which word of an entry tells the block that this place of the file is in. */
        static int whichBlock(int place) {
            return place < BLOCK_WORDS ? FIRST_BLOCK : SECOND_BLOCK;
        }

        int fileWord(int entry, int place) {
            return wordAt(entryWord(entry, whichBlock(place)), place % BLOCK_WORDS);
        }

        private long usedBlocks() {
            return words[MAP_BEGIN] | ((long) words[MAP_BEGIN + 1] << MAP_BITS);
        }

        int firstFreeBlock() {
            long used = usedBlocks();
            for (int block = DATA; block < BLOCKS; block++) {
                if (((used >> block) & 1) == 0) {
                    return block;
                }
            }
            return -1;
        }

        int countFreeBlocks() {
            long used = usedBlocks();
            int free = 0;
            for (int block = DATA; block < BLOCKS; block++) {
                if (((used >> block) & 1) == 0) {
                    free++;
                }
            }
            return free;
        }

        boolean isSound() {
            if (wordAt(HEAD, 0) != 0) {
                return false;
            }
            long owned = USED_ALWAYS;
            for (int entry = 0; entry < ENTRIES; entry++) {
                if (!isSoundEntry(entry)) {
                    return false;
                }
                for (int which = FIRST_BLOCK; which <= SECOND_BLOCK; which++) {
                    int block = entryWord(entry, which);
                    if (block != 0 && (block < DATA || block >= BLOCKS || ((owned >> block) & 1) != 0)) {
                        return false;
                    }
                    owned |= block == 0 ? 0 : 1L << block;
                }
            }
            return owned == usedBlocks();
        }

        private boolean isSoundEntry(int entry) {
            int size = entryWord(entry, SIZE);
            int first = entryWord(entry, FIRST_BLOCK);
            int second = entryWord(entry, SECOND_BLOCK);
            int name = entryWord(entry, NAME);
            if (name == 0) {
                return size == 0 && first == 0 && second == 0;
            }
            return entryOf(name) == entry && size <= MOST_IN_FILE
                && (first != 0) == (size > 0) && (second != 0) == (size > BLOCK_WORDS);
        }
    }

    /** Finds the result of a file call, and what the blocks that it changes will be. */
    private static final class Clerk {
        static final int DONE = 0;
        private static final int MAKE = 0, APPEND = 1, REPLACE = 2, READ = 3, ASK_SIZE = 4, REMOVE = 5, RENAME = 6;
        private static final int NO_FILE = 1, NO_PLACE = 2, NO_BLOCK = 3, NO_CALL = 9;

        private final int[] after = new int[DISK_WORDS];
        private final boolean[] changed = new boolean[BLOCKS];

        /** The entry is that of the file with the name in register 0, below 0 if there is none. */
        int resultOf(int call, int entry, int[] registers, Disk disk) {
            if (call < MAKE || call > RENAME) {
                return NO_CALL;
            }
            if (call == MAKE) {
                return entry >= 0 || registers[0] == 0 ? NO_FILE : disk.entryOf(0) < 0 ? NO_PLACE : DONE;
            }
            if (entry < 0 || (call == RENAME && registers[1] == 0)) {
                return NO_FILE;
            }
            int size = disk.entryWord(entry, Disk.SIZE);
            if (call == APPEND) {
                return size >= Disk.MOST_IN_FILE ? NO_PLACE
                    : needsBlock(size) && disk.firstFreeBlock() < 0 ? NO_BLOCK : DONE;
            }
            return (call == REPLACE || call == READ) && registers[1] >= size ? NO_PLACE : DONE;
        }

        private static boolean needsBlock(int size) {
            return size % BLOCK_WORDS == 0;
        }

        /** Makes a call whose result is DONE; if it changes blocks, they stand in core.call then. */
        void carryOut(int call, int entry, Core core, Disk disk) {
            int[] registers = core.registers;
            begin(disk);
            switch (call) {
                case MAKE:
                    putInEntry(disk.entryOf(0), Disk.NAME, registers[0]);
                    break;
                case APPEND:
                    append(entry, registers[1], disk.firstFreeBlock(), disk);
                    break;
                case REPLACE:
                    put(disk.entryWord(entry, Disk.whichBlock(registers[1])), registers[1] % BLOCK_WORDS, registers[2]);
                    break;
                case READ:
                    registers[2] = disk.fileWord(entry, registers[1]);
                    break;
                case ASK_SIZE:
                    registers[1] = disk.entryWord(entry, Disk.SIZE);
                    break;
                case REMOVE:
                    remove(entry, disk);
                    break;
                default:
                    int other = disk.entryOf(registers[1]);
                    if (other >= 0 && other != entry) {
                        remove(other, disk);
                    }
                    if (other != entry) {
                        putInEntry(entry, Disk.NAME, registers[1]);
                    }
            }
            handOver(core.call);
        }

        private void begin(Disk disk) {
            System.arraycopy(disk.words, 0, after, 0, DISK_WORDS);
            for (int block = 0; block < BLOCKS; block++) {
                changed[block] = false;
            }
        }

        private void handOver(FileCall call) {
            for (int block = 0; block < BLOCKS; block++) {
                if (changed[block]) {
                    call.addBlock(block, after, block * BLOCK_WORDS);
                }
            }
        }

        private void append(int entry, int word, int freeBlock, Disk disk) {
            int size = disk.entryWord(entry, Disk.SIZE);
            int which = Disk.whichBlock(size);
            int block = needsBlock(size) ? freeBlock : disk.entryWord(entry, which);
            if (needsBlock(size)) {
                setUsed(block, true);
                putInEntry(entry, which, block);
                for (int place = 0; place < BLOCK_WORDS; place++) {
                    put(block, place, 0);
                }
            }
            put(block, size % BLOCK_WORDS, word);
            putInEntry(entry, Disk.SIZE, size + 1);
        }

        private void remove(int entry, Disk disk) {
            for (int which = Disk.FIRST_BLOCK; which <= Disk.SECOND_BLOCK; which++) {
                int block = disk.entryWord(entry, which);
                if (block != 0) {
                    setUsed(block, false);
                }
            }
            for (int which = 0; which < Disk.ENTRY_WORDS; which++) {
                putInEntry(entry, which, 0);
            }
        }

        private void setUsed(int block, boolean used) {
            if (block >= 0 && block < BLOCKS) {
                int at = Disk.MAP_BEGIN + block / Disk.MAP_BITS;
                int bit = 1 << (block % Disk.MAP_BITS);
                after[at] = used ? after[at] | bit : after[at] & ~bit;
                changed[Disk.MAP] = true;
            }
        }

        private void putInEntry(int entry, int which, int word) {
            if (entry >= 0 && entry < Disk.ENTRIES && which >= 0 && which < Disk.ENTRY_WORDS) {
                int at = Disk.DIRECTORY_BEGIN + entry * Disk.ENTRY_WORDS + which;
                after[at] = word;
                changed[at / BLOCK_WORDS] = true;
            }
        }

        private void put(int block, int place, int word) {
            if (block >= 0 && block < BLOCKS && place >= 0 && place < BLOCK_WORDS) {
                after[block * BLOCK_WORDS + place] = word;
                changed[block] = true;
            }
        }
    }

    /** All of a machine that is small; so a kept step can have a copy of it. */
    private static final class Core {
        int state;
        int fault;
        int steps;
        int counter;
        int stack;
        boolean zero;
        boolean less;
        boolean interrupts;
        boolean timerPending;
        boolean keysPending;
        int interval;
        int time;
        int tapeCount;
        int keysRead;
        final int[] registers = new int[REGISTERS];
        final FileCall call = new FileCall();

        void empty() {
            state = OFF;
            fault = 0;
            steps = 0;
            counter = 0;
            stack = 0;
            zero = false;
            less = false;
            interrupts = false;
            timerPending = false;
            keysPending = false;
            interval = 0;
            time = 0;
            tapeCount = 0;
            keysRead = 0;
            Arrays.fill(registers, 0);
            call.forget();
        }

        void copyFrom(Core other) {
            state = other.state;
            fault = other.fault;
            steps = other.steps;
            counter = other.counter;
            stack = other.stack;
            zero = other.zero;
            less = other.less;
            interrupts = other.interrupts;
            timerPending = other.timerPending;
            keysPending = other.keysPending;
            interval = other.interval;
            time = other.time;
            tapeCount = other.tapeCount;
            keysRead = other.keysRead;
            System.arraycopy(other.registers, 0, registers, 0, REGISTERS);
            call.copyFrom(other.call);
        }

        /** The flags as an interrupt pushes them. */
        int zeroAndLess() {
            return (zero ? 1 : 0) + (less ? 2 : 0);
        }

        int allFlags() {
            return zeroAndLess() + (interrupts ? 4 : 0) + (timerPending ? 8 : 0) + (keysPending ? 16 : 0);
        }
    }

    /** What is needed to take one step back. */
    private static final class Kept {
        /** An interrupt writes two words, and nothing writes more. */
        private static final int MOST_WRITES = 2;
        private static final int NO_BLOCK = -1;

        final Core before = new Core();
        int writes;
        final int[] addresses = new int[MOST_WRITES];
        final int[] wordsBefore = new int[MOST_WRITES];
        int block = NO_BLOCK;
        final int[] blockBefore = new int[BLOCK_WORDS];

        void begin(Core core) {
            before.copyFrom(core);
            writes = 0;
            block = NO_BLOCK;
        }

        void noteWord(int address, int word) {
            if (writes >= 0 && writes < MOST_WRITES) {
                addresses[writes] = address;
                wordsBefore[writes] = word;
                writes++;
            }
        }

        void noteBlock(int number, Disk disk) {
            block = number;
            for (int place = 0; place < BLOCK_WORDS; place++) {
                blockBefore[place] = disk.wordAt(number, place);
            }
        }

        boolean hasWritten(int address) {
            for (int i = 0; i < writes && i < MOST_WRITES; i++) {
                if (addresses[i] == address) {
                    return true;
                }
            }
            return false;
        }
    }

    /** The keys that were told since the start, in the order in which they come. */
    private static final class Keys {
        int count;
        private final int[] keys = new int[MOST_KEYS];
        private final int[] toldFor = new int[MOST_KEYS];

        void forget() {
            count = 0;
        }

        void copyFrom(Keys other) {
            count = other.count;
            System.arraycopy(other.keys, 0, keys, 0, MOST_KEYS);
            System.arraycopy(other.toldFor, 0, toldFor, 0, MOST_KEYS);
        }

        void tell(int key, int steps) {
            if (count >= MOST_KEYS) {
                return;
            }
            int place = countCome(steps);
            for (int i = count; i > place && i < MOST_KEYS; i--) {
                keys[i] = keys[i - 1];
                toldFor[i] = toldFor[i - 1];
            }
            if (place >= 0 && place < MOST_KEYS) {
                keys[place] = key;
                toldFor[place] = steps;
            }
            count++;
        }

        /** How many keys have come when so many steps were made. */
        int countCome(int steps) {
            int come = 0;
            while (come < count && come < MOST_KEYS && toldFor[come] <= steps) {
                come++;
            }
            return come;
        }

        boolean isOneToldFor(int steps) {
            for (int i = 0; i < count && i < MOST_KEYS; i++) {
                if (toldFor[i] == steps) {
                    return true;
                }
            }
            return false;
        }

        int keyAt(int index) {
            return index >= 0 && index < MOST_KEYS ? keys[index] : 0;
        }
    }

    /** A processor with its memory, tape, keys and disk. */
    private static final class Machine {
        static final int HIGHEST_OPERATION = 26;
        private static final int HALT = 0, SET = 1, LOAD = 2, STORE = 3;
        private static final int ADD = 4, SUBTRACT = 5, MULTIPLY = 6, AND = 7, XOR = 8, SHIFT_LEFT = 9,
            SHIFT_RIGHT = 10, COMPARE = 11;
        private static final int JUMP = 12, JUMP_IF_ZERO = 13, JUMP_IF_LESS = 14, CALL = 15, RETURN = 16,
            PUSH = 17, PULL = 18;
        private static final int INTERRUPTS_ON = 19, INTERRUPTS_OFF = 20, RETURN_FROM_INTERRUPT = 21, WAIT = 22,
            SET_TIMER = 23, READ_KEY = 24, WRITE_TAPE = 25, CALL_FILE = 26;
        private static final int MOST_STEPS = 1000, FIRST_COUNTER = 8, INSTRUCTION_WORDS = 2;
        private static final int TIMER_VECTOR = 0, KEYS_VECTOR = 1;
        private static final int SUM_AT_FIRST = 7, SUM_FACTOR = 31, SUM_DIVISOR = 1000003;

        final Core core = new Core();
        final int[] memory = new int[MEMORY_WORDS];
        final int[] tape = new int[TAPE_WORDS];
        final Disk disk = new Disk();
        final Keys keys = new Keys();
        private final Clerk clerk = new Clerk();
        private final int[] head = new int[BLOCK_WORDS];
        private Kept kept = new Kept();

        /** Answers how many blocks were written by mending. */
        int turnOn(int[] image) {
            int mended = disk.mend();
            core.empty();
            core.state = RUNS;
            core.counter = FIRST_COUNTER;
            core.stack = MEMORY_WORDS;
            if (image.length == MEMORY_WORDS) {
                System.arraycopy(image, 0, memory, 0, MEMORY_WORDS);
            }
            letKeysCome();
            return mended;
        }

        void turnOff() {
            core.empty();
            Arrays.fill(memory, 0);
        }

        boolean canStep() {
            return core.state == RUNS && core.steps < MOST_STEPS;
        }

        void makeStep(Kept step) {
            kept = step;
            kept.begin(core);
            if (core.call.left() > 0) {
                writeNextBlock();
            } else if (core.interrupts && (core.timerPending || core.keysPending)) {
                takeInterrupt();
            } else {
                doInstruction();
            }
            core.steps++;
            passTime();
            letKeysCome();
        }

        void takeBack(Kept step) {
            for (int i = step.writes - 1; i >= 0 && i < Kept.MOST_WRITES; i--) {
                int address = step.addresses[i];
                if (address >= 0 && address < MEMORY_WORDS) {
                    memory[address] = step.wordsBefore[i];
                }
            }
            disk.unwriteBlock(step.block, step.blockBefore);
            core.copyFrom(step.before);
        }

        void letKeysCome() {
            if (keys.isOneToldFor(core.steps)) {
                core.keysPending = true;
            }
        }

        private void passTime() {
            if (core.interval > 0) {
                core.time++;
                if (core.time == core.interval) {
                    core.time = 0;
                    core.timerPending = true;
                }
            }
        }

        private void fail(int fault) {
            core.state = FAULTED;
            core.fault = fault;
        }

        private void goOn() {
            core.counter += INSTRUCTION_WORDS;
        }

        private int wordAt(int address) {
            return address >= 0 && address < MEMORY_WORDS ? memory[address] : 0;
        }

        private void writeWord(int address, int word) {
            if (address >= 0 && address < MEMORY_WORDS) {
                kept.noteWord(address, memory[address]);
                memory[address] = word;
            }
        }

        private void push(int word) {
            core.stack--;
            writeWord(core.stack, word);
        }

        private int pull() {
            core.stack++;
            return wordAt(core.stack - 1);
        }

        private boolean hasRoomFor(int words) {
            if (core.stack < words) {
                fail(BAD_STACK);
                return false;
            }
            return true;
        }

        private boolean hasPushed(int words) {
            if (core.stack + words > MEMORY_WORDS) {
                fail(BAD_STACK);
                return false;
            }
            return true;
        }

        private void takeInterrupt() {
            if (!hasRoomFor(2)) {
                return;
            }
            int vector = core.timerPending ? TIMER_VECTOR : KEYS_VECTOR;
            if (core.timerPending) {
                core.timerPending = false;
            } else {
                core.keysPending = false;
            }
            push(core.counter);
            push(core.zeroAndLess());
            core.interrupts = false;
            core.counter = wordAt(vector);
        }

        private void doInstruction() {
            if (core.counter + INSTRUCTION_WORDS > MEMORY_WORDS) {
                fail(BAD_ADDRESS);
                return;
            }
            int v = wordAt(core.counter);
            int x = wordAt(core.counter + 1);
            int operation = v / 16;
            int d = (v / 4) & 3;
            int s = v & 3;
            int y = d == s ? x : (core.registers[s] + x) & HIGHEST_WORD;
            if (operation > HIGHEST_OPERATION) {
                fail(BAD_OPERATION);
            } else if (operation == CALL_FILE) {
                callFile(y);
            } else if (operation >= INTERRUPTS_ON) {
                control(operation, d, y);
            } else if (operation >= CALL) {
                useStack(operation, d, y);
            } else if (operation >= JUMP) {
                jump(operation, y);
            } else if (operation >= ADD) {
                calculate(operation, d, y);
            } else {
                move(operation, d, y);
            }
        }

        private void move(int operation, int d, int y) {
            if (operation == HALT) {
                core.state = HALTED;
            } else if (operation == SET) {
                setRegister(d, y);
                goOn();
            } else if (y >= MEMORY_WORDS) {
                fail(BAD_ADDRESS);
            } else if (operation == LOAD) {
                setRegister(d, wordAt(y));
                goOn();
            } else {
                writeWord(y, registerAt(d));
                goOn();
            }
        }

        private int registerAt(int d) {
            return d >= 0 && d < REGISTERS ? core.registers[d] : 0;
        }

        private void setRegister(int d, int word) {
            if (d >= 0 && d < REGISTERS) {
                core.registers[d] = word;
            }
        }

        private void calculate(int operation, int d, int y) {
            long result = resultOf(operation, registerAt(d), y);
            boolean bits = operation >= AND && operation <= SHIFT_RIGHT;
            int word = (int) (result & HIGHEST_WORD);
            core.less = !bits && (result < 0 || result > HIGHEST_WORD);
            core.zero = word == 0;
            if (operation != COMPARE) {
                setRegister(d, word);
            }
            goOn();
        }

        private static long resultOf(int operation, int word, int y) {
            switch (operation) {
                case ADD:
                    return word + y;
                case MULTIPLY:
                    return (long) word * y;
                case AND:
                    return word & y;
                case XOR:
                    return word ^ y;
                case SHIFT_LEFT:
                    return word << (y % 16);
                case SHIFT_RIGHT:
                    return word >> (y % 16);
                default:
                    return word - y;
            }
        }

        private void jump(int operation, int y) {
            if ((operation == JUMP_IF_ZERO && !core.zero) || (operation == JUMP_IF_LESS && !core.less)) {
                goOn();
            } else {
                core.counter = y;
            }
        }

        private void useStack(int operation, int d, int y) {
            boolean pushes = operation == CALL || operation == PUSH;
            if (pushes ? !hasRoomFor(1) : !hasPushed(1)) {
                return;
            }
            switch (operation) {
                case CALL:
                    push(core.counter + INSTRUCTION_WORDS);
                    core.counter = y;
                    break;
                case RETURN:
                    core.counter = pull();
                    break;
                case PUSH:
                    push(y);
                    goOn();
                    break;
                default:
                    setRegister(d, pull());
                    goOn();
            }
        }

        private void control(int operation, int d, int y) {
            switch (operation) {
                case INTERRUPTS_ON:
                case INTERRUPTS_OFF:
                    core.interrupts = operation == INTERRUPTS_ON;
                    goOn();
                    break;
                case RETURN_FROM_INTERRUPT:
                    returnFromInterrupt();
                    break;
                case WAIT:
                    if (core.timerPending || core.keysPending) {
                        goOn();
                    }
                    break;
                case SET_TIMER:
                    core.interval = y;
                    core.time = 0;
                    goOn();
                    break;
                case READ_KEY:
                    setRegister(d, nextKey());
                    goOn();
                    break;
                default:
                    writeTape(y);
            }
        }

        private void returnFromInterrupt() {
            if (hasPushed(2)) {
                int flags = pull();
                core.zero = (flags & 1) != 0;
                core.less = (flags & 2) != 0;
                core.counter = pull();
                core.interrupts = true;
            }
        }

        private int nextKey() {
            if (core.keysRead >= keys.countCome(core.steps)) {
                return HIGHEST_WORD;
            }
            core.keysRead++;
            return keys.keyAt(core.keysRead - 1);
        }

        private void writeTape(int word) {
            if (core.tapeCount < 0 || core.tapeCount >= TAPE_WORDS) {
                fail(TAPE_FULL);
                return;
            }
            tape[core.tapeCount] = word;
            core.tapeCount++;
            goOn();
        }

        private void callFile(int number) {
            int entry = core.registers[0] == 0 ? -1 : disk.entryOf(core.registers[0]);
            int result = clerk.resultOf(number, entry, core.registers, disk);
            if (result == Clerk.DONE) {
                clerk.carryOut(number, entry, core, disk);
            }
            if (core.call.left() == 0) {
                core.registers[3] = result;
                goOn();
            }
        }

        /** The order of the writes is what keeps the disk whole: the log, the head, the places, the head. */
        private void writeNextBlock() {
            FileCall call = core.call;
            int turn = call.done;
            if (turn < call.count) {
                writeBlock(Disk.LOG + turn, call.words, turn * BLOCK_WORDS);
            } else if (turn == call.count) {
                call.fillHead(head);
                writeBlock(Disk.HEAD, head, 0);
            } else if (turn <= 2 * call.count) {
                int which = turn - call.count - 1;
                if (which >= 0 && which < FileCall.MOST_BLOCKS) {
                    writeBlock(call.numbers[which], call.words, which * BLOCK_WORDS);
                }
            } else {
                Arrays.fill(head, 0);
                writeBlock(Disk.HEAD, head, 0);
            }
            call.done++;
            if (call.left() == 0) {
                call.forget();
                core.registers[3] = 0;
                goOn();
            }
        }

        private void writeBlock(int block, int[] from, int begin) {
            kept.noteBlock(block, disk);
            disk.writeBlock(block, from, begin);
        }

        boolean hasOnTape(int[] words, int count) {
            if (core.tapeCount != count) {
                return false;
            }
            for (int i = 0; i < count && i < words.length && i < TAPE_WORDS; i++) {
                if (tape[i] != words[i]) {
                    return false;
                }
            }
            return true;
        }

        int sumOfAll() {
            int sum = SUM_AT_FIRST;
            sum = sumWith(sum, core.state);
            sum = sumWith(sum, core.fault);
            sum = sumWith(sum, core.steps);
            sum = sumWith(sum, core.counter);
            sum = sumWith(sum, core.stack);
            sum = sumWith(sum, core.allFlags());
            sum = sumWith(sum, core.interval);
            sum = sumWith(sum, core.time);
            sum = sumWithAll(sum, core.registers, REGISTERS);
            sum = sumWith(sum, core.call.left());
            sum = sumWithAll(sum, memory, MEMORY_WORDS);
            sum = sumWithAll(sum, disk.words, DISK_WORDS);
            sum = sumWith(sum, core.tapeCount);
            return sumWithAll(sum, tape, core.tapeCount);
        }

        private static int sumWith(int sum, int word) {
            return (SUM_FACTOR * sum + word) % SUM_DIVISOR;
        }

        private static int sumWithAll(int sum, int[] words, int count) {
            int all = sum;
            for (int i = 0; i < count && i < words.length; i++) {
                all = sumWith(all, words[i]);
            }
            return all;
        }
    }

    /** A test: what is told and expected, its budgets, and how it ended. The draft of a test is one, too. */
    private static final class Trial {
        int keyCount;
        int wordCount;
        int result = NOT_MADE;
        private final int[] keys = new int[MOST_IN_DRAFT];
        private final int[] words = new int[MOST_IN_DRAFT];
        private int steps;
        private int blocks;
        private int points;
        private int crash;
        private boolean hasPassed;

        int addKey(int key) {
            if (keyCount >= 0 && keyCount < MOST_IN_DRAFT) {
                keys[keyCount] = key;
                keyCount++;
            }
            return keyCount;
        }

        int addWord(int word) {
            if (wordCount >= 0 && wordCount < MOST_IN_DRAFT) {
                words[wordCount] = word;
                wordCount++;
            }
            return wordCount;
        }

        void takeDraft(Trial draft) {
            keyCount = draft.keyCount;
            wordCount = draft.wordCount;
            System.arraycopy(draft.keys, 0, keys, 0, MOST_IN_DRAFT);
            System.arraycopy(draft.words, 0, words, 0, MOST_IN_DRAFT);
            draft.keyCount = 0;
            draft.wordCount = 0;
        }

        void setBudgets(int stepBudget, int blockBudget, int worth, int crashStep) {
            steps = stepBudget;
            blocks = blockBudget;
            points = worth;
            crash = crashStep;
        }

        void makeOn(Machine machine, int[] image, Kept scratch) {
            machine.disk.erase();
            machine.keys.forget();
            for (int i = 0; i < keyCount && i < MOST_IN_DRAFT; i++) {
                machine.keys.tell(keys[i], 0);
            }
            machine.turnOn(image);
            for (int made = 1; made <= steps && machine.canStep(); made++) {
                machine.makeStep(scratch);
                if (made == crash && machine.core.state == RUNS) {
                    machine.turnOff();
                    machine.keys.forget();
                    machine.turnOn(image);
                }
            }
            result = judge(machine);
            hasPassed = hasPassed || result == PASSED;
        }

        private int judge(Machine machine) {
            if (machine.core.state == FAULTED) {
                return FAILED_BY_FAULT;
            }
            if (machine.core.state == RUNS) {
                return SLOW;
            }
            if (machine.disk.written > blocks) {
                return GREEDY;
            }
            if (!machine.hasOnTape(words, wordCount)) {
                return WRONG;
            }
            return machine.disk.isSound() ? PASSED : UNSOUND;
        }

        /** What the test adds to the mark. */
        int share() {
            if (result == PASSED) {
                return points;
            }
            return hasPassed ? -((points + 1) / 2) : 0;
        }
    }
}
