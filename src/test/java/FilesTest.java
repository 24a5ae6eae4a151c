/** Promises 16 to 18 and 38 to 44: files, the log, crashes, mending, and the disk as it lies there. */
public final class FilesTest {
    private static final int NUMBER = KernelGym.NUMBER;

    public static void main(String[] args) {
        rangesOfCalls();
        makeFile();
        makeRefused();
        append();
        appendSecondBlock();
        replaceReadSize();
        remove();
        rename();
        renameOverOther();
        refusedCalls();
        writesInOrder();
        resultBehind();
        interruptsWait();
        crashAtEachWrite();
        format();
        Check.end();
    }

    /** Adds a file call with registers 0, 1 and 2. */
    private static void call(KernelGym gym, int number, int zero, int one, int two) {
        Check.code(gym, 1, 0, 0, zero, 1, 1, 1, one, 1, 2, 2, two, 26, 0, 0, number);
    }

    /** Makes the file calls, four numbers each, puts the result of the last one in register 3, and halts. */
    private static void runCalls(KernelGym gym, int... calls) {
        if (gym.state() != KernelGym.OFF) {
            gym.crash();
        }
        gym.clear();
        for (int i = 0; i + 3 < calls.length; i += 4) {
            call(gym, calls[i], calls[i + 1], calls[i + 2], calls[i + 3]);
        }
        gym.code(0, 0, 0, NUMBER, 0);
        gym.assemble();
        gym.start();
        int guard = 0;
        while (gym.state() == KernelGym.RUNS && guard < 10) {
            gym.step(100);
            guard++;
        }
        Check.due("the calls end", KernelGym.HALTED, gym.state());
        Check.holds("the disk is whole behind the calls", gym.isWhole());
    }

    /** How many steps these calls take, the last of which is the one that changes nothing any more. */
    private static int blocksWritten(KernelGym gym, int... calls) {
        int before = gym.written();
        runCalls(gym, calls);
        return gym.written() - before;
    }

    private static void rangesOfCalls() {
        for (int bad : new int[] {-1, 32, Integer.MAX_VALUE}) {
            Edges.outside("disk block " + bad, KernelGym::new, gym -> gym.disk(bad, 0));
        }
        for (int bad : new int[] {-1, 8, Integer.MIN_VALUE}) {
            Edges.outside("disk place " + bad, KernelGym::new, gym -> gym.disk(0, bad));
        }
        for (int bad : new int[] {-1, 0, 65536}) {
            Edges.outside("size of name " + bad, KernelGym::new, gym -> gym.size(bad));
            Edges.outside("wordOf name " + bad, KernelGym::new, gym -> gym.wordOf(bad, -1));
        }
        Edges.missing("size of no file", KernelGym::new, gym -> gym.size(65535));
        Edges.missing("wordOf no file", KernelGym::new, gym -> gym.wordOf(1, -1));
        KernelGym gym = new KernelGym();
        runCalls(gym, 0, 65535, 0, 0);
        Check.due("size of an empty file", 0, gym.size(65535));
        Class<? extends RuntimeException> outside = IndexOutOfBoundsException.class;
        Check.refused(gym, "wordOf an empty file", outside, () -> gym.wordOf(65535, 0));
        runCalls(gym, 1, 65535, 4, 0);
        Check.due("wordOf", 4, gym.wordOf(65535, 0));
        Check.refused(gym, "wordOf -1", outside, () -> gym.wordOf(65535, -1));
        Check.refused(gym, "wordOf 1", outside, () -> gym.wordOf(65535, 1));
        Check.due("disk at its end", 0, gym.disk(31, 7));
    }

    private static void makeFile() {
        KernelGym gym = new KernelGym();
        Check.due("blocks written to make a file", 4, blocksWritten(gym, 0, 7, 0, 0));
        Check.due("result", 0, gym.register(3));
        Check.due("files", 1, gym.files());
        Check.due("name", 7, gym.disk(5, 0));
        Check.due("size", 0, gym.disk(5, 1));
        Check.due("map", 255, gym.disk(4, 0));
        runCalls(gym, 0, 8, 0, 0, 0, 9, 0, 0);
        Check.due("second entry", 8, gym.disk(5, 4));
        Check.due("third entry", 9, gym.disk(6, 0));
        Check.due("files then", 3, gym.files());
        runCalls(gym, 5, 8, 0, 0, 0, 10, 0, 0);
        Check.due("the first free entry", 10, gym.disk(5, 4));
    }

    private static void makeRefused() {
        KernelGym gym = new KernelGym();
        Check.due("no blocks written for the name 0", 0, blocksWritten(gym, 0, 0, 0, 0));
        Check.due("the name 0", 1, gym.register(3));
        runCalls(gym, 0, 1, 0, 0);
        Check.due("a file that is there", 0, gym.register(3));
        Check.due("no blocks for it", 0, blocksWritten(gym, 0, 1, 0, 0));
        Check.due("a file twice", 1, gym.register(3));
        runCalls(gym, 0, 2, 0, 0, 0, 3, 0, 0, 0, 4, 0, 0, 0, 5, 0, 0, 0, 6, 0, 0);
        Check.due("six files", 6, gym.files());
        runCalls(gym, 0, 7, 0, 0);
        Check.due("no entry", 2, gym.register(3));
        runCalls(gym, 0, 6, 0, 0);
        Check.due("a file twice counts first", 1, gym.register(3));
        runCalls(gym, 0, 0, 0, 0);
        Check.due("the name 0 counts first", 1, gym.register(3));
    }

    private static void append() {
        KernelGym gym = new KernelGym();
        runCalls(gym, 0, 5, 0, 0);
        Check.due("blocks written for the first word", 8, blocksWritten(gym, 1, 5, 42, 0));
        Check.due("map", 511, gym.disk(4, 0));
        Check.due("size", 1, gym.disk(5, 1));
        Check.due("block", 8, gym.disk(5, 2));
        Check.due("no second block", 0, gym.disk(5, 3));
        Check.due("word", 42, gym.disk(8, 0));
        Check.due("free blocks", 23, gym.freeBlocks());
        Check.due("blocks written for the second word", 6, blocksWritten(gym, 1, 5, 43, 0));
        Check.due("second word", 43, gym.disk(8, 1));
        Check.due("size then", 2, gym.size(5));
        Check.due("wordOf", 43, gym.wordOf(5, 1));
    }

    private static void fill(KernelGym gym, int name, int words) {
        int[] calls = new int[4 * words];
        for (int i = 0; i < words; i++) {
            calls[4 * i] = 1;
            calls[4 * i + 1] = name;
            calls[4 * i + 2] = 100 + i;
        }
        runCalls(gym, calls);
    }

    private static void appendSecondBlock() {
        KernelGym gym = new KernelGym();
        runCalls(gym, 0, 1, 0, 0, 0, 2, 0, 0, 1, 2, 9, 0);
        fill(gym, 1, 8);
        Check.due("the first block", 9, gym.disk(5, 2));
        Check.due("no second one up to 8 words", 0, gym.disk(5, 3));
        Check.due("blocks written for the ninth word", 8, blocksWritten(gym, 1, 1, 77, 0));
        Check.due("the second block", 10, gym.disk(5, 3));
        Check.due("the ninth word", 77, gym.wordOf(1, 8));
        Check.due("the eighth word", 107, gym.wordOf(1, 7));
        fill(gym, 1, 7);
        Check.due("16 words", 16, gym.size(1));
        Check.due("the last word", 106, gym.wordOf(1, 15));
        Check.due("no blocks for the 17th word", 0, blocksWritten(gym, 1, 1, 5, 0));
        Check.due("the 17th word", 2, gym.register(3));
        Check.refused(gym, "wordOf 16", IndexOutOfBoundsException.class, () -> gym.wordOf(1, 16));
        // A block that was used before has other words 0 by the first word.
        runCalls(gym, 5, 1, 0, 0);
        Check.due("free blocks then", 23, gym.freeBlocks());
        Check.due("the words stay on the disk", 107, gym.disk(9, 7));
        runCalls(gym, 1, 2, 3, 0, 0, 6, 0, 0, 1, 6, 4, 0);
        Check.due("the first free block", 9, gym.disk(5, 2));
        Check.due("its word", 4, gym.disk(9, 0));
        Check.due("its other words", 0, gym.disk(9, 7));
        highBlocks();
    }

    /** Six files of 16 words use the blocks 8 to 19, some of which the second word of the map tells. */
    private static void highBlocks() {
        KernelGym gym = new KernelGym();
        for (int name = 1; name <= 6; name++) {
            runCalls(gym, 0, name, 0, 0);
            fill(gym, name, 9);
        }
        Check.due("the map's first word", 65535, gym.disk(4, 0));
        Check.due("the map's second word", 15, gym.disk(4, 1));
        Check.due("free blocks", 12, gym.freeBlocks());
        Check.due("the last file's second block", 19, gym.disk(7, 7));
        runCalls(gym, 5, 5, 0, 0);
        Check.due("the map without a file's blocks", 12, gym.disk(4, 1));
        Check.due("free blocks then", 14, gym.freeBlocks());
    }

    private static void replaceReadSize() {
        KernelGym gym = new KernelGym();
        runCalls(gym, 0, 3, 0, 0);
        fill(gym, 3, 10);
        Check.due("blocks written to replace", 4, blocksWritten(gym, 2, 3, 9, 55));
        Check.due("the word", 55, gym.wordOf(3, 9));
        Check.due("the same word is written, too", 4, blocksWritten(gym, 2, 3, 9, 55));
        Check.due("in the first block", 4, blocksWritten(gym, 2, 3, 0, 56));
        Check.due("its word", 56, gym.wordOf(3, 0));
        runCalls(gym, 2, 3, 5, 57);
        Check.due("the sixth word", 57, gym.wordOf(3, 5));
        Check.due("the second word stays", 101, gym.wordOf(3, 1));
        Check.due("no blocks for a place behind", 0, blocksWritten(gym, 2, 3, 10, 1));
        Check.due("a place behind", 2, gym.register(3));
        Check.due("no blocks to read", 0, blocksWritten(gym, 3, 3, 9, 0));
        Check.due("what is read", 55, gym.register(2));
        Check.due("result of reading", 0, gym.register(3));
        runCalls(gym, 3, 3, 10, 7);
        Check.due("a place behind to read", 2, gym.register(3));
        Check.due("the register stays", 7, gym.register(2));
        runCalls(gym, 3, 3, 65535, 7);
        Check.due("a place far behind to read", 2, gym.register(3));
        Check.due("no blocks for a size", 0, blocksWritten(gym, 4, 3, 1, 0));
        Check.due("the size", 10, gym.register(1));
        Check.due("result of a size", 0, gym.register(3));
        runCalls(gym, 4, 4, 8, 0);
        Check.due("the size of no file", 1, gym.register(3));
        Check.due("the register stays then", 8, gym.register(1));
        Check.due("it takes 5 steps", 5, gym.steps());
    }

    private static void remove() {
        KernelGym gym = new KernelGym();
        runCalls(gym, 0, 3, 0, 0, 0, 4, 0, 0);
        Check.due("blocks written to remove an empty file", 4, blocksWritten(gym, 5, 3, 0, 0));
        Check.due("files", 1, gym.files());
        fill(gym, 4, 9);
        Check.due("blocks written to remove words", 6, blocksWritten(gym, 5, 4, 0, 0));
        Check.due("the entry's name", 0, gym.disk(5, 4));
        Check.due("the entry's size", 0, gym.disk(5, 5));
        Check.due("the entry's first block", 0, gym.disk(5, 6));
        Check.due("the entry's second block", 0, gym.disk(5, 7));
        Check.due("the map", 255, gym.disk(4, 0));
        Check.due("the result", 0, gym.register(3));
        runCalls(gym, 5, 4, 0, 0);
        Check.due("removed twice", 1, gym.register(3));
        runCalls(gym, 5, 0, 0, 0);
        Check.due("the name 0 removed", 1, gym.register(3));
    }

    private static void rename() {
        KernelGym gym = new KernelGym();
        runCalls(gym, 0, 3, 0, 0, 1, 3, 33, 0);
        Check.due("blocks written to rename", 4, blocksWritten(gym, 6, 3, 5, 0));
        Check.due("the new name", 33, gym.wordOf(5, 0));
        Check.refused(gym, "the old name", java.util.NoSuchElementException.class, () -> gym.size(3));
        Check.due("no blocks for the same name", 0, blocksWritten(gym, 6, 5, 5, 0));
        Check.due("the same name", 0, gym.register(3));
        runCalls(gym, 6, 5, 0, 0);
        Check.due("the new name 0", 1, gym.register(3));
        runCalls(gym, 6, 4, 5, 0);
        Check.due("no file to rename", 1, gym.register(3));
        runCalls(gym, 6, 4, 4, 0);
        Check.due("no file to get the same name", 1, gym.register(3));
        runCalls(gym, 6, 0, 4, 0);
        Check.due("the name 0 renamed", 1, gym.register(3));
        Check.due("files", 1, gym.files());
    }

    private static void renameOverOther() {
        KernelGym gym = new KernelGym();
        runCalls(gym, 0, 1, 0, 0, 0, 2, 0, 0, 0, 3, 0, 0, 1, 1, 11, 0, 1, 3, 13, 0);
        Check.due("blocks written with an empty one", 4, blocksWritten(gym, 6, 1, 2, 0));
        Check.due("files", 2, gym.files());
        Check.due("its word", 11, gym.wordOf(2, 0));
        Check.due("the other's entry", 0, gym.disk(5, 4));
        Check.due("blocks written with one in another block", 8, blocksWritten(gym, 6, 3, 2, 0));
        Check.due("files then", 1, gym.files());
        Check.due("its word then", 13, gym.wordOf(2, 0));
        Check.due("the other's size", 0, gym.disk(5, 1));
        Check.due("the map", 255 + 512, gym.disk(4, 0));
        Check.due("the disk keeps the block", 11, gym.disk(8, 0));
        runCalls(gym, 0, 9, 0, 0);
        Check.due("blocks written to two directory blocks", 6, blocksWritten(gym, 6, 2, 9, 0));
    }

    private static void refusedCalls() {
        KernelGym gym = new KernelGym();
        for (int number : new int[] {7, 8, 65535}) {
            Check.due("no blocks for call " + number, 0, blocksWritten(gym, number, 0, 0, 0));
            Check.due("call " + number, 9, gym.register(3));
        }
        for (int number = 1; number <= 6; number++) {
            Check.due("no blocks without a file for " + number, 0, blocksWritten(gym, number, 4, 99, 0));
            Check.due("no file for " + number, 1, gym.register(3));
            runCalls(gym, number, 0, 99, 0);
            Check.due("no name for " + number, 1, gym.register(3));
        }
        KernelGym register = Check.ran(3, 1, 1, 1, 4, 1, 0, 0, 8, 26, 2, 1, 3);
        Check.due("the call is y", 9, register.register(3));
    }

    private static void writesInOrder() {
        KernelGym gym = new KernelGym();
        runCalls(gym, 0, 6, 0, 0);
        gym.crash();
        gym.clear();
        call(gym, 1, 6, 700, 0);
        gym.code(0, 0, 0, NUMBER, 0);
        gym.assemble();
        gym.start();
        gym.step(3);
        int before = gym.written();
        gym.step(1);
        Check.due("nothing is written at first", before, gym.written());
        Check.due("eight writes are left", 8, gym.writesLeft());
        Check.due("the counter stays", 14, gym.counter());
        int[] head = {0, 0, 0, 3, 3, 3, 3, 0};
        int[] map = {255, 255, 255, 255, 511, 511, 511, 511};
        int[] size = {0, 0, 0, 0, 0, 1, 1, 1};
        int[] data = {0, 0, 0, 0, 0, 0, 700, 700};
        for (int i = 0; i < 8; i++) {
            gym.step(1);
            Check.due("writes left behind " + i, 7 - i, gym.writesLeft());
            Check.due("head behind " + i, head[i], gym.disk(0, 0));
            Check.due("map behind " + i, map[i], gym.disk(4, 0));
            Check.due("size behind " + i, size[i], gym.size(6));
            Check.due("data behind " + i, data[i], gym.disk(8, 0));
            Check.due("whole behind " + i, head[i] == 0 ? 1 : 0, gym.isWhole() ? 1 : 0);
            Check.due("written behind " + i, before + i + 1, gym.written());
            if (i == 3) {
                checkHead(gym);
            }
        }
        Check.due("the head is empty", 0, gym.disk(0, 4));
        Check.due("the counter goes on", 16, gym.counter());
        Check.due("the result", 0, gym.register(3));
        Check.due("the log stays", 511, gym.disk(1, 0));
        fewerBlocks();
    }

    /** The head of a call with one block behind one with three, which was made, or was crashed and mended. */
    private static void fewerBlocks() {
        for (int crash = 0; crash < 2; crash++) {
            KernelGym gym = new KernelGym();
            runCalls(gym, 0, 6, 0, 0);
            gym.crash();
            gym.clear();
            call(gym, 1, 6, 700, 0);
            call(gym, 2, 6, 0, 701);
            gym.assemble();
            gym.start();
            if (crash == 1) {
                gym.step(4 + 4);
                gym.crash();
                Check.due("three blocks and the head", 4, gym.start());
                Check.due("mending leaves the log", 511, gym.disk(1, 0));
                Check.due("and puts the head to 0", 0, gym.disk(0, 0) + gym.disk(0, 3) + gym.disk(0, 4));
            }
            gym.step(100);
            gym.back(2);
            Check.due("the call of one block", KernelGym.RUNS, gym.state());
            while (gym.disk(0, 0) == 0 && gym.back(1) == 1) {
                Check.due("no blocks of the head", 0, gym.disk(0, 1));
            }
            int[] due = {1, 8, 0, 0, 1 + 8 + 701 + (crash == 1 ? 700 : 0), 0, 0, 0};
            for (int place = 0; place < 8; place++) {
                Check.due("the head of one block at " + place, due[place], gym.disk(0, place));
            }
        }
    }

    private static void resultBehind() {
        KernelGym gym = Check.ran(3, 1, 0, 0, 1, 1, 3, 3, 5, 26, 0, 0, 0);
        Check.due("three steps of writing", 3, gym.step(3));
        Check.due("register 3 stays up to the last write", 5, gym.register(3));
        Check.due("and the counter", 12, gym.counter());
        gym.step(1);
        Check.due("register 3 then", 0, gym.register(3));
        Check.due("and the counter then", 14, gym.counter());
    }

    private static void checkHead(KernelGym gym) {
        int[] due = {3, 4, 5, 8, 0, 0, 0, 0};
        // the numbers, the map's word, the entry of the file with 8 as its block, and the word
        due[4] = 3 + 4 + 5 + 8 + 511 + (6 + 1 + 8) + 700;
        for (int place = 0; place < 8; place++) {
            Check.due("the head at " + place, due[place], gym.disk(0, place));
        }
        Check.due("the log's first block", 511, gym.disk(1, 0));
        Check.due("the log's second block", 6, gym.disk(2, 0));
        Check.due("the log's third block", 700, gym.disk(3, 0));
    }

    private static void interruptsWait() {
        KernelGym gym = Check.ran(3, 19, 0, 0, 0, 1, 0, 0, 4, 26, 0, 0, 0);
        gym.press(1);
        gym.step(3);
        Check.due("a file call goes on", 1, gym.writesLeft());
        Check.due("the interrupt is pending", 4 + 16, gym.flags());
        Check.due("runTo waits for the end of the call", 2, gym.runTo(0, 100));
        Check.due("the interrupt is taken", 0, gym.counter());
        Check.due("behind the call", 14, gym.memory(255));
        KernelGym there = Check.ran(2, 1, 0, 0, 4, 26, 0, 0, 0);
        Check.due("runTo where the counter is in a call", 5, there.runTo(10, 5) + there.writesLeft());
    }

    /** A crash behind each step of each kind of call leaves, once mended, what was ahead of it or behind it. */
    private static void crashAtEachWrite() {
        int[][] calls = {{0, 9, 0, 0}, {1, 1, 21, 0}, {1, 2, 22, 0}, {1, 3, 23, 0}, {2, 1, 1, 24}, {5, 2, 0, 0},
            {5, 3, 0, 0}, {6, 1, 9, 0}, {6, 1, 2, 0}, {6, 3, 1, 0}};
        for (int[] row : calls) {
            int writes = prepared(row).runTo(16, 100);
            for (int steps = 1; steps <= writes; steps++) {
                crashBehind(row, steps, writes - 4);
            }
        }
    }

    /** Three files of 0, 3 and 8 words, and one file call that is about to be made behind three steps. */
    private static KernelGym prepared(int[] row) {
        KernelGym gym = new KernelGym();
        runCalls(gym, 0, 3, 0, 0, 0, 1, 0, 0, 0, 2, 0, 0);
        fill(gym, 1, 3);
        fill(gym, 2, 8);
        gym.crash();
        gym.clear();
        call(gym, row[0], row[1], row[2], row[3]);
        gym.assemble();
        gym.start();
        return gym;
    }

    private static void crashBehind(int[] row, int steps, int writes) {
        KernelGym gym = prepared(row);
        int blocks = (writes - 2) / 2;
        gym.step(steps);
        Check.due("crash", steps, gym.crash());
        boolean logged = steps >= 4 + blocks + 1;
        boolean open = logged && steps < 4 + writes;
        Check.due("whole at the crash", open ? 0 : 1, gym.isWhole() ? 1 : 0);
        String what = "call " + row[0] + " of " + row[1] + " behind " + steps + " steps";
        int written = gym.written();
        Check.due("mended, " + what, open ? blocks + 1 : 0, gym.start());
        Check.due("written by mending, " + what, written + (open ? blocks + 1 : 0), gym.written());
        Check.holds("whole, " + what, gym.isWhole());
        if (!logged) {
            Check.same("the disk is as it was, " + what, dataOf(prepared(row)), dataOf(gym));
        } else {
            KernelGym done = prepared(row);
            done.step(4 + writes);
            Check.same("the disk is as it will be, " + what, dataOf(done), dataOf(gym));
        }
    }

    private static String dataOf(KernelGym gym) {
        StringBuilder data = new StringBuilder();
        for (int block = 4; block < 32; block++) {
            for (int place = 0; place < 8; place++) {
                data.append(gym.disk(block, place)).append(' ');
            }
        }
        return data.toString();
    }

    private static void format() {
        KernelGym gym = new KernelGym();
        runCalls(gym, 0, 1, 0, 0, 0, 2, 0, 0, 1, 1, 5, 0);
        gym.crash();
        Check.due("format", 2, gym.format());
        Check.due("files", 0, gym.files());
        Check.due("written", 0, gym.written());
        Check.due("the map", 255, gym.disk(4, 0));
        Check.due("the data", 0, gym.disk(8, 0));
        Check.due("the log", 0, gym.disk(1, 0));
        Check.due("format again", 0, gym.format());
        gym.start();
        gym.step(4 + 4 + 4 + 2);
        gym.crash();
        Check.due("the head is written", 1, gym.disk(0, 0));
        Check.due("format in a file call", 1, gym.format());
        Check.due("the head is 0", 0, gym.disk(0, 0));
        Check.due("nothing to mend", 0, gym.start());
    }
}
