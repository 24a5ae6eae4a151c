/** Promises 1 to 15: the source, its errors, and what it is assembled to. */
public final class SourceTest {
    private static final int NUMBER = KernelGym.NUMBER, LABEL = KernelGym.LABEL, FIRST = KernelGym.FIRST,
        SECOND = KernelGym.SECOND;

    public static void main(String[] args) {
        newObject();
        linesAndClear();
        rangesOfLines();
        mostLines();
        tooManyLinesGoneThrough();
        tooLongAheadOfOthers();
        tooManyWords();
        labelTwice();
        macroTwice();
        nested();
        macroMissing();
        labelMissing();
        noArgument();
        operandsOfUse();
        firstTimeAheadOfSecond();
        imageOfLines();
        sections();
        macros();
        ownLabels();
        assemble();
        Check.end();
    }

    private static void newObject() {
        KernelGym gym = new KernelGym();
        Check.due("lines of a new object", 0, gym.lines());
        Check.due("error of a new object", 0, gym.error());
        Check.due("state of a new object", KernelGym.OFF, gym.state());
        Check.due("tests of a new object", 0, gym.tests());
        Check.due("mark of a new object", 0, gym.mark());
        Check.due("counter of a new object", 0, gym.counter());
        Check.due("stack of a new object", 0, gym.stack());
        Check.due("map of a new object", 255, gym.disk(4, 0));
        Check.due("head of a new object", 0, gym.disk(0, 0));
        Check.due("free blocks of a new object", 24, gym.freeBlocks());
        Check.holds("a new disk is whole", gym.isWhole());
        Check.untimely(gym, "image of a new object", () -> gym.image(0));
    }

    private static void linesAndClear() {
        KernelGym gym = new KernelGym();
        Check.due("clear of no lines", 0, gym.clear());
        Check.due("section", 1, gym.section(1));
        Check.due("label", 2, gym.label(19));
        Check.due("code", 3, gym.code(26, 3, 3, NUMBER, 65535));
        Check.due("word", 4, gym.word(LABEL, 19));
        Check.due("space", 5, gym.space(32));
        Check.due("vector", 6, gym.vector(1, NUMBER, 0));
        Check.due("macro", 7, gym.macro(4));
        Check.due("endMacro", 8, gym.endMacro());
        Check.due("use", 9, gym.use(4, NUMBER, 65535, LABEL, 19));
        Check.due("lines", 9, gym.lines());
        Check.due("assemble", 35, gym.assemble());
        Check.due("clear", 9, gym.clear());
        Check.due("lines then", 0, gym.lines());
        Check.due("the image stays", 16 * 26 + 15, gym.image(8));
        Check.due("clear again", 0, gym.clear());
    }

    private static void rangesOfLines() {
        Edges.Maker line = SourceTest::oneLine;
        for (int bad : new int[] {-1, 2, Integer.MIN_VALUE, Integer.MAX_VALUE}) {
            Edges.outside("section " + bad, line, gym -> gym.section(bad));
            Edges.outside("vector at " + bad, line, gym -> gym.vector(bad, NUMBER, 0));
        }
        for (int bad : new int[] {-1, 20, Integer.MIN_VALUE, Integer.MAX_VALUE}) {
            Edges.outside("label " + bad, line, gym -> gym.label(bad));
            Edges.outside("code with label " + bad, line, gym -> gym.code(0, 0, 0, LABEL, bad));
            Edges.outside("word with label " + bad, line, gym -> gym.word(LABEL, bad));
            Edges.outside("vector with label " + bad, line, gym -> gym.vector(0, LABEL, bad));
            Edges.outside("use with label " + bad, line, gym -> gym.use(0, LABEL, bad, NUMBER, 0));
            Edges.outside("use with second label " + bad, line, gym -> gym.use(0, NUMBER, 0, LABEL, bad));
        }
        for (int bad : new int[] {-1, 27}) {
            Edges.outside("code " + bad, line, gym -> gym.code(bad, 0, 0, NUMBER, 0));
        }
        for (int bad : new int[] {-1, 4, Integer.MAX_VALUE}) {
            Edges.outside("d " + bad, line, gym -> gym.code(0, bad, 0, NUMBER, 0));
            Edges.outside("s " + bad, line, gym -> gym.code(0, 0, bad, NUMBER, 0));
            Edges.outside("code of kind " + bad, line, gym -> gym.code(0, 0, 0, bad, 0));
            Edges.outside("word of kind " + bad, line, gym -> gym.word(bad, 0));
            Edges.outside("vector of kind " + bad, line, gym -> gym.vector(0, bad, 0));
            Edges.outside("use of kind " + bad, line, gym -> gym.use(0, bad, 0, NUMBER, 0));
            Edges.outside("use of second kind " + bad, line, gym -> gym.use(0, NUMBER, 0, bad, 0));
        }
        for (int bad : new int[] {-1, 65536, Integer.MIN_VALUE}) {
            for (int kind : new int[] {NUMBER, FIRST, SECOND}) {
                Edges.outside("code with " + bad, line, gym -> gym.code(0, 0, 0, kind, bad));
                Edges.outside("word with " + bad, line, gym -> gym.word(kind, bad));
                Edges.outside("vector with " + bad, line, gym -> gym.vector(0, kind, bad));
                Edges.outside("use with " + bad, line, gym -> gym.use(0, kind, bad, NUMBER, 0));
                Edges.outside("use with second " + bad, line, gym -> gym.use(0, NUMBER, 0, kind, bad));
            }
        }
        Edges.outside("space 0", line, gym -> gym.space(0));
        Edges.outside("space 33", line, gym -> gym.space(33));
        Edges.outside("macro -1", line, gym -> gym.macro(-1));
        Edges.outside("macro 5", line, gym -> gym.macro(5));
        Edges.outside("use -1", line, gym -> gym.use(-1, NUMBER, 0, NUMBER, 0));
        Edges.outside("use 5", line, gym -> gym.use(5, NUMBER, 0, NUMBER, 0));
    }

    private static KernelGym oneLine() {
        KernelGym gym = new KernelGym();
        gym.word(NUMBER, 5);
        return gym;
    }

    private static void mostLines() {
        KernelGym gym = new KernelGym();
        for (int i = 1; i <= 100; i++) {
            Check.due("line", i, gym.section(0));
        }
        Edges.untimely("section behind 100 lines", Edges::lines100, full -> full.section(0));
        Edges.untimely("label behind 100 lines", Edges::lines100, full -> full.label(0));
        Edges.untimely("code behind 100 lines", Edges::lines100, full -> full.code(0, 0, 0, NUMBER, 0));
        Edges.untimely("word behind 100 lines", Edges::lines100, full -> full.word(NUMBER, 0));
        Edges.untimely("space behind 100 lines", Edges::lines100, full -> full.space(1));
        Edges.untimely("vector behind 100 lines", Edges::lines100, full -> full.vector(0, NUMBER, 0));
        Edges.untimely("macro behind 100 lines", Edges::lines100, full -> full.macro(0));
        Edges.untimely("endMacro behind 100 lines", Edges::lines100, full -> full.endMacro());
        Edges.untimely("use behind 100 lines", Edges::lines100, full -> full.use(0, NUMBER, 0, NUMBER, 0));
        Edges.outside("the range is told first", Edges::lines100, full -> full.section(2));
        Edges.outside("the label's range", Edges::lines100, full -> full.label(20));
        Edges.outside("the code's range", Edges::lines100, full -> full.code(0, 0, 0, LABEL, 20));
        Edges.outside("the word's range", Edges::lines100, full -> full.word(4, 0));
        Edges.outside("the space's range", Edges::lines100, full -> full.space(0));
        Edges.outside("the vector's range", Edges::lines100, full -> full.vector(2, NUMBER, 0));
        Edges.outside("the macro's range", Edges::lines100, full -> full.macro(5));
        Edges.outside("the use's range", Edges::lines100, full -> full.use(0, NUMBER, 0, NUMBER, 65536));
        Check.due("assemble 100 lines", 0, gym.assemble());
        Check.due("clear of 100 lines", 100, gym.clear());
        Check.due("the next line", 1, gym.section(0));
        gym.macro(0);
        gym.word(SECOND, 0);
        gym.endMacro();
        for (int i = 5; i < 100; i++) {
            gym.section(0);
        }
        Check.due("the 100th line uses a macro", 100, gym.use(0, NUMBER, 1, NUMBER, 2));
        gym.assemble();
        Check.due("its second operand", 2, gym.image(8));
    }

    /** A macro of 39 lines that is used 7 times: 1 + 7 * 40 = 281 lines are gone through. */
    private static KernelGym long281() {
        KernelGym gym = new KernelGym();
        gym.macro(0);
        for (int i = 0; i < 39; i++) {
            gym.section(0);
        }
        gym.endMacro();
        for (int i = 0; i < 7; i++) {
            gym.use(0, NUMBER, 0, NUMBER, 0);
        }
        return gym;
    }

    private static KernelGym long300() {
        KernelGym gym = long281();
        for (int i = 0; i < 19; i++) {
            gym.vector(0, NUMBER, 0);
        }
        return gym;
    }

    private static void tooManyLinesGoneThrough() {
        KernelGym gym = long300();
        Check.due("300 lines gone through", 0, gym.error());
        Check.due("the line behind them", 68, gym.section(1));
        Check.due("301 lines gone through", 167, gym.error());
        gym = long281();
        gym.use(0, NUMBER, 0, NUMBER, 0);
        Check.due("the 301st line in a macro", 100 + 19, gym.error());
    }

    private static void tooLongAheadOfOthers() {
        KernelGym gym = long300();
        gym.endMacro();
        Check.due("the 301st line ends no macro", 167, gym.error());
        gym = long300();
        gym.macro(0);
        Check.due("the 301st line begins a macro twice", 167, gym.error());
        gym = long300();
        gym.use(4, NUMBER, 0, NUMBER, 0);
        Check.due("the 301st line uses no macro", 167, gym.error());
        gym = long281();
        gym.label(3);
        for (int i = 0; i < 18; i++) {
            gym.vector(0, NUMBER, 0);
        }
        gym.label(3);
        Check.due("the 301st line sets a label twice", 167, gym.error());
        gym = long281();
        for (int i = 0; i < 18; i++) {
            gym.vector(0, NUMBER, 0);
        }
        gym.macro(1);
        gym.macro(2);
        Check.due("the line that is not come to does not count", 467, gym.error());
    }

    private static KernelGym words248() {
        KernelGym gym = new KernelGym();
        for (int i = 0; i < 7; i++) {
            gym.section(i % 2);
            gym.space(32);
        }
        gym.space(24);
        return gym;
    }

    private static void tooManyWords() {
        KernelGym gym = words248();
        Check.due("248 words", 0, gym.error());
        Check.due("248 words assembled", 248, gym.assemble());
        gym.word(NUMBER, 1);
        Check.due("249 words by a word", 115, gym.error());
        gym = words248();
        gym.label(0);
        gym.section(1);
        gym.vector(0, LABEL, 0);
        Check.due("no words behind 248", 0, gym.error());
        gym.space(1);
        Check.due("249 words by a space", 118, gym.error());
        gym = new KernelGym();
        for (int i = 0; i < 7; i++) {
            gym.space(32);
        }
        gym.space(23);
        gym.section(1);
        gym.code(0, 0, 0, NUMBER, 0);
        Check.due("249 words by an instruction", 109, gym.error());
    }

    private static void labelTwice() {
        KernelGym gym = new KernelGym();
        gym.label(15);
        gym.section(1);
        gym.label(15);
        Check.due("a label twice", 202, gym.error());
        gym.clear();
        gym.label(16);
        gym.label(19);
        gym.label(17);
        gym.label(18);
        Check.due("other labels", 0, gym.error());
        gym.label(16);
        Check.due("label 16 twice outside", 204, gym.error());
        gym.clear();
        gym.macro(0);
        gym.label(15);
        gym.endMacro();
        gym.use(0, NUMBER, 0, NUMBER, 0);
        Check.due("a label in a macro", 0, gym.error());
        gym.use(0, NUMBER, 0, NUMBER, 0);
        Check.due("a label in a macro twice", 201, gym.error());
        gym.clear();
        gym.label(16);
        gym.macro(0);
        gym.label(16);
        gym.endMacro();
        gym.macro(1);
        gym.label(16);
        gym.use(0, NUMBER, 0, NUMBER, 0);
        gym.endMacro();
        gym.use(1, NUMBER, 0, NUMBER, 0);
        gym.use(1, NUMBER, 0, NUMBER, 0);
        Check.due("label 16 of each use", 0, gym.error());
        gym.clear();
        gym.macro(0);
        gym.label(19);
        gym.label(19);
        gym.endMacro();
        Check.due("label 19 twice in a macro that is not used", 0, gym.error());
        gym.use(0, NUMBER, 0, NUMBER, 0);
        Check.due("label 19 twice in a use", 202, gym.error());
    }

    private static void macroTwice() {
        KernelGym gym = new KernelGym();
        gym.macro(2);
        gym.endMacro();
        gym.macro(2);
        Check.due("a macro twice, and not ended", 302, gym.error());
        gym.macro(3);
        Check.due("a macro twice, ahead of another", 302, gym.error());
        gym.clear();
        gym.macro(2);
        gym.endMacro();
        gym.macro(3);
        gym.endMacro();
        Check.due("two macros", 0, gym.error());
        gym.macro(2);
        gym.endMacro();
        Check.due("a macro twice", 304, gym.error());
    }

    private static void nested() {
        KernelGym gym = new KernelGym();
        gym.section(0);
        gym.endMacro();
        Check.due("a macro ended that was not begun", 401, gym.error());
        gym.clear();
        gym.section(0);
        gym.macro(1);
        Check.due("a macro that nothing ends", 401, gym.error());
        gym.label(1);
        gym.label(1);
        Check.due("its lines are not gone through", 401, gym.error());
        gym.macro(1);
        Check.due("the same macro in a macro", 404, gym.error());
        gym.endMacro();
        Check.due("a macro in a macro that is ended", 404, gym.error());
        gym.clear();
        gym.macro(0);
        gym.endMacro();
        gym.macro(1);
        gym.macro(0);
        gym.endMacro();
        Check.due("it is not begun twice there", 403, gym.error());
        gym.clear();
        gym.macro(1);
        gym.endMacro();
        gym.endMacro();
        Check.due("a macro ended twice", 402, gym.error());
    }

    private static void macroMissing() {
        KernelGym gym = new KernelGym();
        gym.section(0);
        gym.use(0, NUMBER, 0, NUMBER, 0);
        gym.macro(0);
        gym.endMacro();
        Check.due("a macro that is begun behind", 501, gym.error());
        gym.clear();
        gym.macro(0);
        gym.use(1, NUMBER, 0, NUMBER, 0);
        gym.endMacro();
        Check.due("a macro in a macro that is not used", 0, gym.error());
        gym.macro(1);
        gym.use(0, NUMBER, 0, NUMBER, 0);
        gym.endMacro();
        Check.due("macros that use one another, not used", 0, gym.error());
        gym.use(0, NUMBER, 0, NUMBER, 0);
        Check.due("macros that use one another", 504, gym.error());
        gym.clear();
        gym.macro(0);
        gym.use(1, NUMBER, 0, NUMBER, 0);
        gym.endMacro();
        gym.macro(1);
        gym.word(NUMBER, 1);
        gym.endMacro();
        gym.use(0, NUMBER, 0, NUMBER, 0);
        gym.use(1, NUMBER, 0, NUMBER, 0);
        gym.use(0, NUMBER, 0, NUMBER, 0);
        Check.due("a macro begun ahead of the use", 0, gym.error());
        Check.due("its words", 3, gym.assemble());
        gym.clear();
        gym.macro(0);
        gym.use(0, NUMBER, 0, NUMBER, 0);
        gym.endMacro();
        gym.use(0, NUMBER, 0, NUMBER, 0);
        Check.due("a macro that uses itself", 501, gym.error());
        deepMacros();
    }

    private static void deepMacros() {
        KernelGym gym = new KernelGym();
        gym.macro(0);
        gym.word(FIRST, 1);
        gym.endMacro();
        for (int macro = 1; macro < 5; macro++) {
            gym.macro(macro);
            gym.use(macro - 1, FIRST, 10, NUMBER, 0);
            gym.endMacro();
        }
        gym.use(4, NUMBER, 100, NUMBER, 0);
        gym.word(LABEL, 0);
        gym.section(1);
        gym.label(0);
        Check.due("five macros deep", 2, gym.assemble());
        Check.due("an argument handed on", 141, gym.image(8));
        Check.due("the words of five macros count", 10, gym.image(9));
    }

    private static void labelMissing() {
        KernelGym gym = new KernelGym();
        gym.code(12, 0, 0, LABEL, 4);
        Check.due("an instruction names no label", 600, gym.error());
        gym.label(4);
        Check.due("a label that is set behind", 0, gym.error());
        gym.word(LABEL, 5);
        Check.due("a word names no label", 602, gym.error());
        gym.label(5);
        gym.vector(1, LABEL, 6);
        Check.due("a vector names no label", 604, gym.error());
        gym.clear();
        gym.macro(0);
        gym.word(LABEL, 7);
        gym.endMacro();
        Check.due("a macro that is not used names no label", 0, gym.error());
        gym.use(0, NUMBER, 0, NUMBER, 0);
        Check.due("a macro that is used names no label", 601, gym.error());
    }

    private static void noArgument() {
        KernelGym gym = new KernelGym();
        gym.word(FIRST, 0);
        Check.due("a first argument outside", 700, gym.error());
        gym.clear();
        gym.code(0, 0, 0, SECOND, 0);
        Check.due("a second argument outside", 700, gym.error());
        gym.clear();
        gym.vector(0, SECOND, 0);
        Check.due("an argument of a vector outside", 700, gym.error());
        gym.clear();
        gym.macro(0);
        gym.vector(0, SECOND, 3);
        gym.endMacro();
        gym.use(0, NUMBER, 1, NUMBER, 2);
        Check.due("an argument of a vector in a macro", 0, gym.error());
        gym.word(FIRST, 0);
        Check.due("an argument behind a macro", 704, gym.error());
    }

    private static void operandsOfUse() {
        KernelGym gym = new KernelGym();
        gym.macro(0);
        gym.word(LABEL, 9);
        gym.endMacro();
        gym.use(0, FIRST, 0, LABEL, 8);
        Check.due("the first operand counts", 703, gym.error());
        gym.clear();
        gym.macro(0);
        gym.word(LABEL, 9);
        gym.endMacro();
        gym.use(0, LABEL, 8, FIRST, 0);
        Check.due("the first operand counts too", 603, gym.error());
        gym.clear();
        gym.macro(0);
        gym.word(LABEL, 9);
        gym.endMacro();
        gym.use(0, NUMBER, 8, SECOND, 0);
        Check.due("operands ahead of the macro's lines", 703, gym.error());
        gym.clear();
        gym.macro(0);
        gym.label(16);
        gym.word(FIRST, 0);
        gym.endMacro();
        gym.use(0, LABEL, 16, NUMBER, 0);
        Check.due("a label of the macro outside of it", 604, gym.error());
    }

    private static void firstTimeAheadOfSecond() {
        KernelGym gym = new KernelGym();
        gym.word(LABEL, 0);
        gym.word(FIRST, 0);
        gym.label(1);
        gym.label(1);
        Check.due("the first time counts", 203, gym.error());
        gym.clear();
        gym.word(FIRST, 0);
        gym.word(LABEL, 0);
        Check.due("the first line of the second time counts", 700, gym.error());
    }

    private static void imageOfLines() {
        KernelGym gym = new KernelGym();
        gym.code(26, 1, 2, NUMBER, 65535);
        gym.word(NUMBER, 77);
        gym.space(2);
        gym.label(0);
        gym.word(LABEL, 0);
        gym.vector(0, NUMBER, 5);
        gym.vector(1, LABEL, 0);
        gym.vector(0, NUMBER, 6);
        Check.due("words", 6, gym.assemble());
        int[] due = {6, 13, 0, 0, 0, 0, 0, 0, 26 * 16 + 4 + 2, 65535, 77, 0, 0, 13, 0};
        for (int i = 0; i < due.length; i++) {
            Check.due("image " + i, due[i], gym.image(i));
        }
        Check.outside(gym, "image -1", () -> gym.image(-1));
        Check.outside(gym, "image 256", () -> gym.image(256));
        KernelGym empty = new KernelGym();
        Check.outside(empty, "the range of image is told first", () -> empty.image(256));
        Check.untimely(empty, "no image", () -> empty.image(255));
    }

    private static void sections() {
        KernelGym gym = new KernelGym();
        gym.section(1);
        gym.word(NUMBER, 11);
        gym.label(1);
        gym.section(0);
        gym.word(NUMBER, 12);
        gym.label(0);
        gym.section(1);
        gym.word(LABEL, 0);
        gym.word(LABEL, 1);
        gym.section(0);
        gym.code(1, 0, 0, LABEL, 2);
        gym.section(1);
        gym.label(2);
        Check.due("words of both sections", 6, gym.assemble());
        int[] due = {12, 16, 14, 11, 9, 12, 0};
        for (int i = 0; i < due.length; i++) {
            Check.due("image of sections " + i, due[i], gym.image(8 + i));
        }
    }

    private static void macros() {
        KernelGym gym = new KernelGym();
        gym.macro(0);
        gym.word(FIRST, 3);
        gym.section(1);
        gym.word(SECOND, 65535);
        gym.endMacro();
        gym.macro(1);
        gym.use(0, SECOND, 1, FIRST, 2);
        gym.section(0);
        gym.word(FIRST, 0);
        gym.endMacro();
        gym.use(1, NUMBER, 65534, LABEL, 0);
        gym.section(1);
        gym.use(0, NUMBER, 65533, NUMBER, 0);
        gym.label(0);
        Check.due("words of macros", 5, gym.assemble());
        // Label 0 is at 13: two words in section 0, three in section 1.
        int[] due = {17, 65534, 65535, 0, 65535, 0};
        for (int i = 0; i < due.length; i++) {
            Check.due("image of macros " + i, due[i], gym.image(8 + i));
        }
    }

    private static void ownLabels() {
        KernelGym gym = new KernelGym();
        gym.macro(0);
        gym.word(LABEL, 16);
        gym.word(FIRST, 0);
        gym.label(16);
        gym.endMacro();
        gym.macro(1);
        gym.label(16);
        gym.use(0, LABEL, 16, NUMBER, 0);
        gym.word(LABEL, 16);
        gym.endMacro();
        gym.label(16);
        gym.use(1, NUMBER, 0, NUMBER, 0);
        gym.use(1, NUMBER, 0, NUMBER, 0);
        gym.word(LABEL, 16);
        Check.due("words of own labels", 7, gym.assemble());
        int[] due = {10, 8, 8, 13, 11, 11, 8};
        for (int i = 0; i < due.length; i++) {
            Check.due("image of own labels " + i, due[i], gym.image(8 + i));
        }
        manyUses();
        KernelGym outer = new KernelGym();
        outer.macro(0);
        outer.word(LABEL, 17);
        outer.endMacro();
        outer.label(17);
        outer.use(0, NUMBER, 0, NUMBER, 0);
        Check.due("a label outside is not meant in a macro", 601, outer.error());
        outer.clear();
        outer.macro(0);
        outer.word(LABEL, 17);
        outer.endMacro();
        outer.macro(1);
        outer.label(17);
        outer.use(0, NUMBER, 0, NUMBER, 0);
        outer.endMacro();
        outer.use(1, NUMBER, 0, NUMBER, 0);
        Check.due("nor one of a macro that uses it", 601, outer.error());
        outer.clear();
        outer.macro(0);
        outer.label(17);
        outer.endMacro();
        outer.macro(1);
        outer.use(0, NUMBER, 0, NUMBER, 0);
        outer.word(LABEL, 17);
        outer.endMacro();
        outer.use(1, NUMBER, 0, NUMBER, 0);
        Check.due("nor one of a macro that it uses", 605, outer.error());
    }

    /** Each use has its own four labels, at other places than those of other uses and those of the source. */
    private static void manyUses() {
        KernelGym gym = new KernelGym();
        for (int label = 0; label < 20; label++) {
            gym.label(label);
        }
        gym.macro(0);
        for (int label = 16; label < 20; label++) {
            gym.word(LABEL, label);
        }
        for (int label = 16; label < 20; label++) {
            gym.label(label);
            gym.word(LABEL, 35 - label);
        }
        gym.endMacro();
        for (int i = 0; i < 20; i++) {
            gym.use(0, NUMBER, 0, NUMBER, 0);
        }
        Check.due("words of many uses", 160, gym.assemble());
        for (int i = 0; i < 20; i++) {
            for (int label = 0; label < 4; label++) {
                Check.due("a label of the use " + i, 12 + 8 * i + label, gym.image(8 + 8 * i + label));
                Check.due("a label ahead of it " + i, 15 + 8 * i - label, gym.image(12 + 8 * i + label));
            }
        }
    }

    private static void assemble() {
        KernelGym gym = new KernelGym();
        gym.word(NUMBER, 9);
        gym.vector(0, NUMBER, 4);
        Check.due("assemble", 1, gym.assemble());
        gym.label(0);
        gym.label(0);
        Check.untimely(gym, "assemble with an error", () -> gym.assemble());
        Check.due("the image stays", 9, gym.image(8));
        gym.start();
        gym.clear();
        Check.due("assemble no words", 0, gym.assemble());
        Check.due("no words in the image", 0, gym.image(8));
        Check.due("no vector in the image", 0, gym.image(0));
        Check.due("the machine keeps its memory", 9, gym.memory(8));
        Check.due("and its vector", 4, gym.memory(0));
        gym.crash();
        gym.start();
        Check.due("it starts with the new image", 0, gym.memory(8));
    }
}
