/** The boundary cases that the document names under FILES, and in the promises 18 and 38 to 44. */
public final class EdgesOfFilesTest {
    private static final int NUMBER = KernelGym.NUMBER, LABEL = KernelGym.LABEL;
    private static final int MAKE = 0, APPEND = 1, REPLACE = 2, READ = 3, SIZE = 4, REMOVE = 5, RENAME = 6;

    public static void main(String[] args) {
        Check.about("FILES");
        names();
        entriesInOrder();
        sizes();
        mapBits();
        firstFreeBlock();
        resultNine();
        resultOne();
        resultTwo();
        leastResult();
        doneInOneStep();
        writesOfCalls();
        renames();
        logInOrder();
        checkWraps();
        registerAndCounter();
        interruptsWait();
        crashes();
        mendedTwice();
        wholeOnTheWay();
        promises();
        Check.end();
    }

    private static void promises() {
        format();
        written();
        disk();
        files();
        size();
        wordOf();
        wordsOnTheWay();
        freeBlocks();
        isWhole();
        Check.namesPromises(18, 18);
        Check.namesPromises(38, 44);
    }

    /** Starts file calls: each one is four numbers, the call and the registers 0, 1 and 2. It halts behind them. */
    private static void begin(KernelGym gym, int... calls) {
        if (gym.state() != KernelGym.OFF) {
            gym.crash();
        }
        gym.clear();
        for (int i = 0; i + 3 < calls.length; i += 4) {
            Check.code(gym, 1, 0, 0, calls[i + 1], 1, 1, 1, calls[i + 2], 1, 2, 2, calls[i + 3], 26, 0, 0, calls[i]);
        }
        gym.code(0, 0, 0, NUMBER, 0);
        gym.assemble();
        gym.start();
    }

    private static void finish(KernelGym gym) {
        for (int i = 0; i < 10 && gym.state() == KernelGym.RUNS; i++) {
            gym.step(100);
        }
        Check.due("the calls end", KernelGym.HALTED, gym.state());
    }

    private static void call(KernelGym gym, int... calls) {
        begin(gym, calls);
        finish(gym);
    }

    /** Makes the calls; answers the result of the last one. */
    private static int result(KernelGym gym, int... calls) {
        call(gym, calls);
        return gym.register(3);
    }

    /** How many steps a call takes, with that of its instruction. */
    private static int stepsOf(KernelGym gym, int... oneCall) {
        call(gym, oneCall);
        return gym.steps() - 4;
    }

    /** Makes a file, if there is none, and puts words to its end: this one, the next one, and so on. */
    private static void fill(KernelGym gym, int name, int words, int first) {
        if (gym.state() != KernelGym.OFF) {
            gym.crash();
        }
        gym.clear();
        Check.code(gym, 1, 0, 0, name, 26, 0, 0, MAKE, 1, 1, 1, first);
        gym.label(0);
        Check.code(gym, 11, 1, 1, first + words);
        gym.code(13, 0, 0, LABEL, 1);
        Check.code(gym, 26, 0, 0, APPEND, 4, 1, 1, 1);
        gym.code(12, 0, 0, LABEL, 0);
        gym.label(1);
        gym.code(0, 0, 0, NUMBER, 0);
        gym.assemble();
        gym.start();
        finish(gym);
    }

    private static KernelGym withFile(int name, int words) {
        KernelGym gym = new KernelGym();
        fill(gym, name, words, 100);
        return gym;
    }

    /** Six files, from 1 to 6, of so many words each. */
    private static KernelGym six(int words) {
        KernelGym gym = new KernelGym();
        for (int name = 1; name <= 6; name++) {
            fill(gym, name, words, 100 * name);
        }
        return gym;
    }

    private static void entry(KernelGym gym, String what, int entry, int... due) {
        for (int i = 0; i < 4; i++) {
            Check.due(what + ": word " + i + " of the entry " + entry, due[i],
                gym.disk(5 + entry / 2, 4 * (entry % 2) + i));
        }
    }

    private static void names() {
        for (int name : new int[] {1, 65535}) {
            KernelGym gym = new KernelGym();
            Check.due("a file with the name " + name, 0, result(gym, MAKE, name, 0, 0));
            Check.due("its size", 0, gym.size(name));
            entry(gym, "a file without words", 0, name, 0, 0, 0);
            Check.due("it gets another name", 0, result(gym, RENAME, name, 65536 - name, 0));
            entry(gym, "another name", 0, 65536 - name, 0, 0, 0);
        }
        KernelGym gym = new KernelGym();
        Check.due("a file with the name 0", 1, result(gym, MAKE, 0, 0, 0));
        Check.due("is not made", 0, gym.files());
    }

    private static void entriesInOrder() {
        KernelGym gym = six(0);
        for (int i = 0; i < 6; i++) {
            entry(gym, "six files", i, i + 1, 0, 0, 0);
        }
        Check.due("a seventh file", 2, result(gym, MAKE, 7, 0, 0));
        for (int i = 5; i >= 0; i--) {
            call(gym, REMOVE, i + 1, 0, 0);
            entry(gym, "a file that was removed", i, 0, 0, 0, 0);
            Check.due("a file there", 0, result(gym, MAKE, 20 + i, 0, 0));
            entry(gym, "the only free entry", i, 20 + i, 0, 0, 0);
        }
        call(gym, REMOVE, 24, 0, 0, REMOVE, 21, 0, 0, MAKE, 31, 0, 0);
        entry(gym, "the first of two free ones", 1, 31, 0, 0, 0);
        entry(gym, "the second of two free ones", 4, 0, 0, 0, 0);
    }

    private static void sizes() {
        int[][] rows = {{0, 0, 0}, {1, 8, 0}, {7, 8, 0}, {8, 8, 0}, {9, 8, 9}, {15, 8, 9}, {16, 8, 9}};
        for (int[] row : rows) {
            KernelGym gym = withFile(3, row[0]);
            entry(gym, "a file of " + row[0] + " words", 0, 3, row[0], row[1], row[2]);
            Check.due("its size", row[0], gym.size(3));
            for (int i = 0; i < row[0]; i++) {
                Check.due("its word " + i, 100 + i, gym.wordOf(3, i));
                Check.due("its word " + i + " on the disk", 100 + i, gym.disk(8 + i / 8, i % 8));
            }
            Check.due("the word behind it", 0, row[0] < 16 ? gym.disk(8 + row[0] / 8, row[0] % 8) : gym.disk(10, 0));
        }
        KernelGym full = withFile(3, 15);
        Check.due("the 16th word", 0, result(full, APPEND, 3, 65535, 0));
        Check.due("the word", 65535, full.wordOf(3, 15));
        Check.due("the 17th word", 2, result(full, APPEND, 3, 4, 0));
        Check.due("the size stays", 16, full.size(3));
    }

    private static void mapBits() {
        KernelGym gym = new KernelGym();
        int[] words = {255, 0, 1023, 0, 4095, 0, 16383, 0, 65535, 0, 65535, 3, 65535, 15};
        for (int files = 0; files <= 6; files++) {
            if (files > 0) {
                fill(gym, files, 9, 50 * files);
            }
            Check.due("the map's first word with " + files + " files", words[2 * files], gym.disk(4, 0));
            Check.due("its second word with " + files + " files", words[2 * files + 1], gym.disk(4, 1));
            for (int place = 2; place < 8; place++) {
                Check.due("the map's word " + place, 0, gym.disk(4, place));
            }
            Check.due("free blocks with " + files + " files", 24 - 2 * files, gym.freeBlocks());
        }
        call(gym, REMOVE, 5, 0, 0);
        Check.due("the blocks 16 and 17 are free", 12, gym.disk(4, 1));
        call(gym, REMOVE, 4, 0, 0, REMOVE, 1, 0, 0);
        Check.due("the blocks 8 and 9, 14 and 15, are free", 65535 - 768 - 49152, gym.disk(4, 0));
        Check.due("the blocks 18 and 19 are used", 12, gym.disk(4, 1));
        Check.due("free blocks", 18, gym.freeBlocks());
        Check.holds("the disk is whole", gym.isWhole());
        call(gym, REMOVE, 6, 0, 0, REMOVE, 2, 0, 0, REMOVE, 3, 0, 0);
        Check.due("only the blocks 0 to 7 are used", 255, gym.disk(4, 0) + gym.disk(4, 1));
    }

    private static void firstFreeBlock() {
        KernelGym gym = six(8);
        for (int name = 1; name <= 6; name++) {
            entry(gym, "files of 8 words", name - 1, name, 8, 7 + name, 0);
        }
        call(gym, REMOVE, 5, 0, 0, REMOVE, 2, 0, 0, APPEND, 6, 7, 0);
        entry(gym, "the first of the free blocks", 5, 6, 9, 13, 9);
        Check.due("the word", 7, gym.wordOf(6, 8));
        for (int place = 1; place < 8; place++) {
            Check.due("other words of a block that was used before", 0, gym.disk(9, place));
        }
        Check.due("the words of a free block stay", 507, gym.disk(12, 7));
        call(gym, APPEND, 1, 8, 0, APPEND, 3, 9, 0);
        entry(gym, "the second free block", 0, 1, 9, 8, 12);
        entry(gym, "the first block behind those used", 2, 3, 9, 10, 14);
        KernelGym none = six(16);
        Check.due("all files full leave blocks free", 12, none.freeBlocks());
        Check.due("a word more", 2, result(none, APPEND, 6, 1, 0));
        entry(none, "the last file", 5, 6, 16, 18, 19);
    }

    private static void resultNine() {
        for (int number : new int[] {7, 8, 9, 32768, 65535}) {
            Check.due("call " + number + " without files", 9, result(new KernelGym(), number, 0, 0, 0));
            KernelGym gym = withFile(3, 16);
            Check.due("call " + number, 9, result(gym, number, 3, 3, 0));
            Check.due("its only step", 1, stepsOf(gym, number, 3, 3, 0));
            Check.due("register 1", 3, gym.register(1));
            Check.due("the file stays", 16, gym.size(3));
        }
        for (int number = 0; number <= 6; number++) {
            Check.holds("call " + number, result(new KernelGym(), number, 0, 0, 0) == 1);
        }
        KernelGym sum = Check.ran(3, 1, 1, 1, 65535, 1, 0, 0, 9, 26, 0, 1, 8);
        Check.due("y is 7, not the number", 9, sum.register(3));
        KernelGym wraps = Check.ran(3, 1, 1, 1, 65535, 1, 0, 0, 9, 26, 0, 1, 1);
        Check.due("y is 0", 4, wraps.writesLeft());
    }

    private static void resultOne() {
        for (int number = APPEND; number <= RENAME; number++) {
            KernelGym gym = withFile(3, 2);
            for (int name : new int[] {0, 2, 4, 65535}) {
                Check.due("call " + number + " of " + name, 1, result(gym, number, name, 1, 9));
                Check.due("register 1 stays", 1, gym.register(1));
                Check.due("register 2 stays", 9, gym.register(2));
            }
        }
        KernelGym gym = withFile(3, 2);
        Check.due("a file that is there is made", 1, result(gym, MAKE, 3, 0, 0));
        Check.due("a file with the name 0 is made", 1, result(gym, MAKE, 0, 0, 0));
        Check.due("the new name is 0", 1, result(gym, RENAME, 3, 0, 0));
        Check.due("the file stays", 2, gym.size(3));
        Check.due("one that is not there gets its own name", 1, result(gym, RENAME, 4, 4, 0));
        Check.due("the name 0 gets the name 0", 1, result(gym, RENAME, 0, 0, 0));
        call(gym, REMOVE, 3, 0, 0);
        Check.due("a file that was removed", 1, result(gym, REMOVE, 3, 0, 0));
    }

    private static void resultTwo() {
        for (int size : new int[] {0, 1, 8, 9, 16}) {
            for (int place : new int[] {0, 7, 8, 15, 16, 65535}) {
                int due = place < size ? 0 : 2;
                KernelGym gym = withFile(3, size);
                Check.due("a word is put at " + place + " of " + size, due, result(gym, REPLACE, 3, place, 65535));
                Check.due("the size stays", size, gym.size(3));
                for (int i = 0; i < size; i++) {
                    Check.due("the word " + i, i == place ? 65535 : 100 + i, gym.wordOf(3, i));
                }
                Check.due("a word is read at " + place + " of " + size, due, result(gym, READ, 3, place, 77));
                Check.due("the word that is read", due == 0 ? 65535 : 77, gym.register(2));
            }
        }
        Check.due("no free entry", 2, result(six(0), MAKE, 7, 0, 0));
        for (int size : new int[] {15, 16}) {
            Check.due("a word to the end of " + size, size == 16 ? 2 : 0, result(withFile(3, size), APPEND, 3, 1, 0));
        }
    }

    /** If several results apply, it is the least one. */
    private static void leastResult() {
        KernelGym gym = six(16);
        Check.due("a file that is there, and no free entry", 1, result(gym, MAKE, 6, 0, 0));
        Check.due("the name 0, and no free entry", 1, result(gym, MAKE, 0, 0, 0));
        Check.due("no file, and no such place", 1, result(gym, REPLACE, 7, 16, 0));
        Check.due("no file, and no such place to read", 1, result(gym, READ, 7, 65535, 0));
        Check.due("no free entry", 2, result(gym, MAKE, 7, 0, 0));
        Check.due("a full file", 2, result(gym, APPEND, 1, 0, 0));
    }

    private static void doneInOneStep() {
        KernelGym gym = withFile(3, 9);
        int written = gym.written();
        int[][] calls = {{READ, 3, 8, 0}, {READ, 3, 0, 0}, {SIZE, 3, 0, 0}, {RENAME, 3, 3, 0}, {MAKE, 3, 0, 0},
            {MAKE, 0, 0, 0}, {APPEND, 4, 0, 0}, {REPLACE, 3, 9, 0}, {READ, 3, 9, 0}, {REMOVE, 4, 0, 0},
            {RENAME, 3, 0, 0}, {7, 3, 0, 0}};
        int[] results = {0, 0, 0, 0, 1, 1, 1, 2, 2, 1, 1, 9};
        for (int i = 0; i < calls.length; i++) {
            begin(gym, calls[i]);
            gym.step(3);
            Check.due("the step of call " + calls[i][0], 1, gym.step(1));
            Check.due("no writes", 0, gym.writesLeft());
            Check.due("the counter goes on", 16, gym.counter());
            Check.due("the result", results[i], gym.register(3));
        }
        call(gym, READ, 3, 8, 0);
        Check.due("what is read", 108, gym.register(2));
        call(gym, SIZE, 3, 77, 5);
        Check.due("the size", 9, gym.register(1));
        Check.due("register 2 stays", 5, gym.register(2));
        Check.due("no blocks are written", written, gym.written());
        Check.due("the name stays", 9, gym.size(3));
    }

    /** Two writes for each block that is changed, two of the head, and the step of the instruction. */
    private static void writesOfCalls() {
        KernelGym gym = new KernelGym();
        Check.due("a file is made: the directory", 5, stepsOf(gym, MAKE, 3, 0, 0));
        Check.due("an empty file is removed: the directory", 5, stepsOf(gym, REMOVE, 3, 0, 0));
        call(gym, MAKE, 3, 0, 0);
        for (int words = 0; words < 16; words++) {
            Check.due("a word behind " + words + ": a data block, the directory, and the map if it is a new one",
                words % 8 == 0 ? 9 : 7, stepsOf(gym, APPEND, 3, words, 0));
        }
        Check.due("a word takes a place: its block", 5, stepsOf(gym, REPLACE, 3, 7, 99));
        Check.due("the same word: the same", 5, stepsOf(gym, REPLACE, 3, 7, 99));
        Check.due("another name: the directory", 5, stepsOf(gym, RENAME, 3, 4, 0));
        Check.due("a file with words is removed: the directory and the map", 7, stepsOf(gym, REMOVE, 4, 0, 0));
        call(gym, MAKE, 3, 0, 0);
        Check.due("a word 0 in a block that has only words 0", 9, stepsOf(gym, APPEND, 3, 0, 0));
    }

    /** The names of the file and of the other one, the other's words, and how many blocks are changed. */
    private static void renames() {
        int[][] rows = {{1, 2, 0, 1}, {2, 1, 0, 1}, {1, 3, 0, 2}, {3, 1, 0, 2}, {1, 2, 1, 2}, {1, 3, 1, 3},
            {6, 1, 9, 3}, {5, 6, 16, 2}, {1, 6, 8, 3}};
        for (int[] row : rows) {
            KernelGym gym = six(0);
            fill(gym, row[0], 2, 700);
            fill(gym, row[1], row[2], 800);
            int free = gym.freeBlocks();
            Check.due("a name that " + row[2] + " words have, in " + row[0] + " and " + row[1], 2 * row[3] + 3,
                stepsOf(gym, RENAME, row[0], row[1], 0));
            Check.due("the result", 0, gym.register(3));
            Check.due("one file less", 5, gym.files());
            Check.due("the words of the file", 701, gym.wordOf(row[1], 1));
            entry(gym, "the other file", row[1] - 1, 0, 0, 0, 0);
            Check.due("the other's blocks are free", free + (row[2] + 7) / 8, gym.freeBlocks());
            Check.holds("the disk is whole", gym.isWhole());
        }
    }

    private static void block(KernelGym gym, String what, int block, int... due) {
        for (int place = 0; place < 8; place++) {
            Check.due(what + ": " + block + " " + place, place < due.length ? due[place] : 0, gym.disk(block, place));
        }
    }

    private static void logInOrder() {
        KernelGym gym = new KernelGym();
        call(gym, MAKE, 6, 0, 0);
        begin(gym, APPEND, 6, 700, 0);
        gym.step(4);
        block(gym, "nothing is written in the step of the instruction", 2);
        Check.due("eight writes", 8, gym.writesLeft());
        gym.step(1);
        block(gym, "the map in the log", 1, 511);
        block(gym, "not the next one", 2);
        gym.step(1);
        block(gym, "the directory in the log", 2, 6, 1, 8, 0);
        block(gym, "not the next one", 3);
        gym.step(1);
        block(gym, "the data in the log", 3, 700);
        block(gym, "not the head", 0);
        gym.step(1);
        block(gym, "the head", 0, 3, 4, 5, 8, 3 + 4 + 5 + 8 + 511 + 6 + 1 + 8 + 700);
        block(gym, "not the map", 4, 255);
        gym.step(1);
        block(gym, "the map at its place", 4, 511);
        block(gym, "not the directory", 5, 6);
        gym.step(1);
        block(gym, "the directory at its place", 5, 6, 1, 8, 0);
        block(gym, "not the data", 8);
        gym.step(1);
        block(gym, "the data at its place", 8, 700);
        Check.due("the head is there up to the last write", 3, gym.disk(0, 0));
        gym.step(1);
        block(gym, "the head with words 0", 0);
        block(gym, "the log stays", 3, 700);
        begin(gym, RENAME, 6, 9, 0);
        gym.step(6);
        block(gym, "the head of one block", 0, 1, 5, 0, 0, 1 + 5 + 9 + 1 + 8);
        block(gym, "the log's first block", 1, 9, 1, 8, 0);
        block(gym, "its second block is an old one", 2, 6, 1, 8, 0);
        begin(gym, APPEND, 9, 5, 0);
        gym.step(7);
        block(gym, "the head of two blocks", 0, 2, 5, 8, 0, 2 + 5 + 8 + 9 + 2 + 8 + 700 + 5);
        begin(gym, REMOVE, 9, 0, 0);
        gym.step(7);
        block(gym, "the head of the map and the directory", 0, 2, 4, 5, 0, 2 + 4 + 5 + 255);
    }

    /** The check is taken modulo 65536; what is mended then is right. */
    private static void checkWraps() {
        for (int word : new int[] {65535 - 9 - 1, 65536 - 9 - 1, 65535}) {
            KernelGym gym = withFile(3, 1);
            begin(gym, REPLACE, 3, 0, word);
            gym.step(6);
            block(gym, "the head with the word " + word, 0, 1, 8, 0, 0, (1 + 8 + word) % 65536);
            Check.due("mended with the word " + word, 2, crashAndStart(gym));
            Check.due("the word " + word, word, gym.wordOf(3, 0));
        }
        KernelGym gym = withFile(65535, 8);
        for (int place = 0; place < 8; place++) {
            call(gym, REPLACE, 65535, place, 65535);
        }
        begin(gym, REPLACE, 65535, 7, 65534);
        gym.step(6);
        block(gym, "the head of high words", 0, 1, 8, 0, 0, (1 + 8 + 7 * 65535 + 65534) % 65536);
        Check.due("high words are mended", 2, crashAndStart(gym));
        Check.due("the last of them", 65534, gym.wordOf(65535, 7));
    }

    private static int crashAndStart(KernelGym gym) {
        gym.crash();
        return gym.start();
    }

    private static void registerAndCounter() {
        KernelGym gym = Check.started(1, 3, 3, 5, 1, 0, 0, 7, 26, 0, 0, MAKE, 1, 1, 1, 9);
        gym.step(3);
        for (int left = 4; left > 0; left--) {
            Check.due("register 3, " + left + " writes ahead of the end", 5, gym.register(3));
            Check.due("the counter, " + left + " writes ahead of the end", 12, gym.counter());
            gym.step(1);
        }
        Check.due("register 3 behind the last write", 0, gym.register(3));
        Check.due("the counter behind the last write", 14, gym.counter());
        gym.step(1);
        Check.due("the next instruction", 9, gym.register(1));
    }

    private static void interruptsWait() {
        KernelGym gym = new KernelGym();
        gym.vector(0, NUMBER, 60);
        gym.vector(1, NUMBER, 70);
        Check.code(gym, 19, 0, 0, 0, 1, 0, 0, 7, 23, 0, 0, 2, 26, 0, 0, MAKE);
        gym.assemble();
        gym.start();
        gym.step(3);
        Check.due("none is pending ahead of the call", 4, gym.flags());
        gym.step(1);
        gym.press(1);
        for (int left = 4; left > 0; left--) {
            Check.due("both are pending in the call", 4 + 8 + 16, gym.flags());
            Check.due("the counter stays", 14, gym.counter());
            gym.step(1);
        }
        Check.due("the call has ended", 16, gym.counter());
        gym.step(1);
        Check.due("the interrupt behind it", 60, gym.counter());
        Check.due("the counter that is pushed", 16, gym.memory(255));
    }

    /** A call, and how many blocks it changes, on files of 0, 3 and 16 words with the names 1, 2 and 3. */
    private static final int[][] CALLS = {{MAKE, 4, 0, 0, 1}, {APPEND, 1, 65535, 0, 3}, {APPEND, 2, 65535, 0, 2},
        {REPLACE, 2, 2, 65535, 1}, {REPLACE, 3, 15, 65535, 1}, {REMOVE, 1, 0, 0, 1}, {REMOVE, 3, 0, 0, 2},
        {RENAME, 1, 65535, 0, 1}, {RENAME, 2, 1, 0, 1}, {RENAME, 1, 2, 0, 2}, {RENAME, 1, 3, 0, 3}};

    private static KernelGym beforeCall(int[] row) {
        KernelGym gym = new KernelGym();
        fill(gym, 1, 0, 0);
        fill(gym, 2, 3, 200);
        fill(gym, 3, 16, 300);
        begin(gym, row[0], row[1], row[2], row[3]);
        gym.step(3);
        return gym;
    }

    /** The words of the map, the directory and the data. */
    private static String dataOf(KernelGym gym) {
        StringBuilder data = new StringBuilder();
        for (int i = 32; i < 256; i++) {
            data.append(gym.disk(i / 8, i % 8)).append(' ');
        }
        return data.toString();
    }

    /** A crash in any step leaves the disk, once it is mended, as it was or as it will be. */
    private static void crashes() {
        for (int[] row : CALLS) {
            int blocks = row[4];
            String before = dataOf(beforeCall(row));
            KernelGym done = beforeCall(row);
            done.step(1 + 2 * blocks + 2);
            String behind = dataOf(done);
            Check.due("the call is done", 16, done.counter());
            for (int writes = 0; writes <= 2 * blocks + 2; writes++) {
                String what = "call " + row[0] + " of " + row[1] + ", a crash behind " + writes + " writes";
                KernelGym gym = beforeCall(row);
                int written = gym.written();
                gym.step(1 + writes);
                gym.crash();
                boolean open = writes > blocks && writes < 2 * blocks + 2;
                Check.due(what + ": whole", open ? 0 : 1, gym.isWhole() ? 1 : 0);
                Check.due(what + ": mended", open ? blocks + 1 : 0, gym.start());
                Check.due(what + ": written", written + writes + (open ? blocks + 1 : 0), gym.written());
                Check.same(what + ": the disk", writes > blocks ? behind : before, dataOf(gym));
                Check.holds(what + ": whole then", gym.isWhole());
                block(gym, what + ": the head", 0);
                crashed(row, writes, before, behind);
            }
        }
    }

    /** A crash leaves the disk as it is; places are written behind the log and the head. */
    private static void crashed(int[] row, int writes, String before, String behind) {
        KernelGym gym = beforeCall(row);
        gym.step(1 + writes);
        String there = dataOf(gym);
        KernelGym crashed = beforeCall(row);
        crashed.step(1 + writes);
        crashed.crash();
        Check.same("a crash behind " + writes + " writes leaves the disk", there, dataOf(crashed));
        if (writes <= row[4] + 1) {
            Check.same("the disk ahead of the writes of places", before, there);
        }
        if (writes > 2 * row[4]) {
            Check.same("the disk behind the writes of places", behind, there);
        }
    }

    /** Mending twice does nothing the second time; the log's words stay, but do not count any more. */
    private static void mendedTwice() {
        KernelGym gym = beforeCall(CALLS[1]);
        gym.step(5);
        Check.due("three blocks and the head", 4, crashAndStart(gym));
        Check.due("nothing more", 0, crashAndStart(gym));
        block(gym, "the log's first block stays", 1, 4095);
        block(gym, "the log's third block stays", 3, 65535);
        call(gym, REMOVE, 1, 0, 0);
        Check.due("nothing is mended behind another call", 0, crashAndStart(gym));
        Check.due("the file is removed", 2, gym.files());
        begin(gym, APPEND, 3, 0, 0, APPEND, 2, 0, 0, RENAME, 2, 3, 0);
        gym.step(4 + 4 + 6 + 4 + 4);
        Check.due("a head of three blocks", 3, gym.disk(0, 0));
        crashAndStart(gym);
        begin(gym, MAKE, 9, 0, 0);
        gym.step(6);
        block(gym, "a head of one block behind that", 0, 1, 5, 0, 0, 1 + 5 + 9 + 3 + 4 + 8);
    }

    private static void wholeOnTheWay() {
        for (int[] row : CALLS) {
            KernelGym gym = beforeCall(row);
            int blocks = row[4];
            gym.step(1);
            for (int writes = 0; writes <= 2 * blocks + 2; writes++) {
                boolean open = writes > blocks && writes < 2 * blocks + 2;
                Check.due("whole behind " + writes + " writes", open ? 0 : 1, gym.isWhole() ? 1 : 0);
                gym.step(1);
            }
        }
    }

    private static void format() {
        Check.promise(18);
        Edges.untimely("it RUNS", Edges::running, gym -> gym.format());
        Edges.untimely("it is HALTED", Edges::halted, gym -> gym.format());
        Edges.untimely("it is FAULTED", Edges::faulted, gym -> gym.format());
        Edges.untimely("in a file call", Edges::calling, gym -> gym.format());
        Check.due("no files", 0, new KernelGym().format());
        for (int words : new int[] {0, 16}) {
            KernelGym gym = six(words);
            gym.crash();
            Check.due("six files", 6, gym.format());
            Check.due("no files any more", 0, gym.files());
            Check.due("no blocks count as written", 0, gym.written());
            Check.due("free blocks", 24, gym.freeBlocks());
            for (int i = 0; i < 256; i++) {
                Check.due("the disk's word " + i, i == 32 ? 255 : 0, gym.disk(i / 8, i % 8));
            }
            Check.due("none to format again", 0, gym.format());
            Check.holds("it is whole", gym.isWhole());
        }
        KernelGym open = Edges.crashed();
        Check.holds("the log is to be mended", !open.isWhole());
        Check.due("the file is not made yet", 0, open.format());
        Check.due("nothing is mended behind it", 0, open.start());
        Check.due("and nothing written", 0, open.written());
    }

    private static void written() {
        Check.promise(38);
        Check.due("a new disk", 0, new KernelGym().written());
        KernelGym gym = new KernelGym();
        begin(gym, MAKE, 3, 0, 0, APPEND, 3, 5, 0, APPEND, 3, 6, 0, READ, 3, 0, 0, REMOVE, 3, 0, 0);
        int[] written = {0, 0, 0, 0, 0, 1, 2, 3, 4, 4, 4, 4, 4, 5, 6, 7, 8, 9, 10, 11, 12, 12};
        for (int i = 0; i < written.length; i++) {
            Check.due("behind " + i + " steps", written[i], gym.written());
            gym.step(1);
        }
        finish(gym);
        Check.due("behind all calls", 4 + 8 + 6 + 6, gym.written());
        gym.crash();
        Check.due("while OFF", 24, gym.written());
        gym.start();
        Check.due("behind a start", 24, gym.written());
        gym.step(10);
        Check.due("the file call goes on counting", 24 + 4, gym.written());
        gym.back(10);
        Check.due("blocks that are taken back", 24, gym.written());
    }

    private static void disk() {
        Check.promise(39);
        for (int bad : new int[] {-1, 32, Integer.MIN_VALUE, Integer.MAX_VALUE}) {
            Edges.outside("block " + bad, Edges::running, gym -> gym.disk(bad, 0));
            Edges.outside("block " + bad + " of a new disk", KernelGym::new, gym -> gym.disk(bad, 7));
        }
        for (int bad : new int[] {-1, 8, Integer.MIN_VALUE, Integer.MAX_VALUE}) {
            Edges.outside("place " + bad, Edges::running, gym -> gym.disk(0, bad));
            Edges.outside("place " + bad + " of the last block", Edges::crashed, gym -> gym.disk(31, bad));
        }
        KernelGym gym = six(16);
        Check.due("the first word", 0, gym.disk(0, 0));
        Check.due("the head's last word", 0, gym.disk(0, 7));
        Check.due("the first entry", 1, gym.disk(5, 0));
        Check.due("the last entry's last word", 19, gym.disk(7, 7));
        Check.due("the first data word", 100, gym.disk(8, 0));
        Check.due("the last data word", 615, gym.disk(19, 7));
        Check.due("the last block", 0, gym.disk(31, 0));
        Check.due("the last word", 0, gym.disk(31, 7));
        gym.crash();
        Check.due("while OFF", 615, gym.disk(19, 7));
    }

    private static void files() {
        Check.promise(40);
        Check.due("a new disk", 0, new KernelGym().files());
        KernelGym gym = new KernelGym();
        for (int files = 1; files <= 6; files++) {
            fill(gym, files, 0, 0);
            Check.due("files", files, gym.files());
        }
        result(gym, MAKE, 7, 0, 0);
        Check.due("six files, and no entry for another one", 6, gym.files());
        gym.crash();
        Check.due("while OFF", 6, gym.files());
        for (int files = 5; files >= 0; files--) {
            call(gym, REMOVE, 6 - files, 0, 0);
            Check.due("files", files, gym.files());
        }
        begin(gym, MAKE, 9, 0, 0);
        gym.step(6);
        Check.due("a file that is in the log alone", 0, gym.files());
        gym.step(1);
        Check.due("a file at its place", 1, gym.files());
    }

    private static void size() {
        Check.promise(41);
        for (int bad : new int[] {-1, 0, 65536, Integer.MIN_VALUE, Integer.MAX_VALUE}) {
            Edges.outside("name " + bad, Edges::running, gym -> gym.size(bad));
            Edges.outside("name " + bad + " of a new disk", KernelGym::new, gym -> gym.size(bad));
        }
        for (int name : new int[] {1, 65535}) {
            Edges.missing("name " + name, Edges::running, gym -> gym.size(name));
            Edges.missing("name " + name + " of a new disk", KernelGym::new, gym -> gym.size(name));
            for (int words : new int[] {0, 1, 16}) {
                KernelGym gym = withFile(name, words);
                Check.due("the size of " + name, words, gym.size(name));
                gym.crash();
                Check.due("the size of " + name + " while OFF", words, gym.size(name));
            }
        }
        KernelGym removed = withFile(3, 4);
        call(removed, REMOVE, 3, 0, 0);
        Check.refused(removed, "a file that was removed", java.util.NoSuchElementException.class,
            () -> removed.size(3));
        KernelGym open = Edges.crashed();
        Check.refused(open, "a file that is in the log alone", java.util.NoSuchElementException.class,
            () -> open.size(3));
    }

    private static void wordOf() {
        Check.promise(42);
        for (int bad : new int[] {-1, 0, 65536, Integer.MIN_VALUE, Integer.MAX_VALUE}) {
            Edges.outside("name " + bad, Edges::running, gym -> gym.wordOf(bad, 0));
            Edges.outside("name " + bad + ", and no such place", KernelGym::new, gym -> gym.wordOf(bad, -1));
        }
        for (int name : new int[] {1, 65535}) {
            Edges.missing("name " + name, Edges::running, gym -> gym.wordOf(name, 0));
            Edges.missing("name " + name + ", and no such place", KernelGym::new, gym -> gym.wordOf(name, -1));
        }
        for (int words : new int[] {0, 1, 8, 9, 16}) {
            Edges.Maker maker = () -> withFile(65535, words);
            for (int bad : new int[] {-1, words, words + 1, 16, Integer.MIN_VALUE, Integer.MAX_VALUE}) {
                Edges.beyond("the word " + bad + " of " + words, maker, gym -> gym.wordOf(65535, bad));
            }
            if (words > 0) {
                Check.due("the first word of " + words, 100, maker.make().wordOf(65535, 0));
                Check.due("the last word of " + words, 99 + words, maker.make().wordOf(65535, words - 1));
            }
        }
    }

    /** The disk is asked as it lies there: the directory is written ahead of the data. */
    private static void wordsOnTheWay() {
        KernelGym gym = withFile(3, 1);
        begin(gym, APPEND, 3, 77, 0);
        gym.step(4 + 3);
        Check.due("the size ahead of the directory's write", 1, gym.size(3));
        gym.step(1);
        Check.due("the size behind it", 2, gym.size(3));
        Check.due("the word ahead of the data's write", 0, gym.wordOf(3, 1));
        gym.step(1);
        Check.due("the word behind it", 77, gym.wordOf(3, 1));
    }

    private static void freeBlocks() {
        Check.promise(43);
        Check.due("a new disk", 24, new KernelGym().freeBlocks());
        int[][] rows = {{0, 24}, {1, 18}, {8, 18}, {9, 12}, {16, 12}};
        for (int[] row : rows) {
            KernelGym gym = six(row[0]);
            Check.due("six files of " + row[0] + " words", row[1], gym.freeBlocks());
            gym.crash();
            Check.due("while OFF", row[1], gym.freeBlocks());
        }
        KernelGym gym = new KernelGym();
        fill(gym, 3, 0, 0);
        begin(gym, APPEND, 3, 5, 0);
        gym.step(4 + 4);
        Check.due("ahead of the map's write", 24, gym.freeBlocks());
        gym.step(1);
        Check.due("behind the map's write", 23, gym.freeBlocks());
    }

    private static void isWhole() {
        Check.promise(44);
        Check.holds("a new disk", new KernelGym().isWhole());
        for (int words : new int[] {0, 1, 8, 9, 16}) {
            Check.holds("six files of " + words + " words", six(words).isWhole());
        }
        Check.holds("the head is there", !Edges.crashed().isWhole());
        KernelGym mended = Edges.crashed();
        mended.start();
        Check.holds("it is mended", mended.isWhole());
        Check.holds("nothing is written yet", Edges.calling().isWhole());
    }
}
