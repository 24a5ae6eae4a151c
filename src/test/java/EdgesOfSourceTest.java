/** The boundary cases that the document names under SOURCE, and in the promises 1 to 15. */
public final class EdgesOfSourceTest {
    private static final int NUMBER = KernelGym.NUMBER, LABEL = KernelGym.LABEL, FIRST = KernelGym.FIRST,
        SECOND = KernelGym.SECOND;
    private static final int[] KINDS_OF_WORDS = {NUMBER, FIRST, SECOND};

    public static void main(String[] args) {
        Check.about("SOURCE");
        wordsWrap();
        lineNumbers();
        sections();
        vectors();
        macrosAtTheirEdges();
        macrosFiveDeep();
        labelsOfOneUse();
        labelsOfEachUse();
        mostUses();
        linesGoneThrough();
        linesGoneThroughInMacros();
        mostWords();
        labelTwice();
        macroTwice();
        nested();
        macroMissing();
        macroBusy();
        labelMissing();
        noArgument();
        operandsOfUse();
        firstTimeFirst();
        severalAtOneLine();
        lastLineAsks();
        promises();
        Check.namesPromises(1, 15);
        Check.end();
    }

    private static void promises() {
        newObject();
        clear();
        lines();
        linesWithOneNumber();
        codes();
        operands();
        uses();
        ends();
        fullSource();
        error();
        assemble();
        image();
    }

    /** Looks at the image from the address 8 on. */
    private static void image(KernelGym gym, String what, int... due) {
        for (int i = 0; i < due.length; i++) {
            Check.due(what + " at " + (8 + i), due[i], gym.image(8 + i));
        }
    }

    private static void error(KernelGym gym, String what, int error, int line) {
        Check.due(what, 100 * error + line, gym.error());
    }

    private static void none(KernelGym gym, String what) {
        Check.due(what, 0, gym.error());
    }

    private static void plainUse(KernelGym gym, int macro) {
        gym.use(macro, NUMBER, 0, NUMBER, 0);
    }

    /** A macro with this many lines, that adds no words. */
    private static void plainMacro(KernelGym gym, int macro, int lines) {
        gym.macro(macro);
        for (int i = 0; i < lines; i++) {
            gym.vector(0, NUMBER, 0);
        }
        gym.endMacro();
    }

    private static void wordsWrap() {
        KernelGym gym = new KernelGym();
        gym.macro(0);
        gym.word(FIRST, 0);
        gym.word(FIRST, 1);
        gym.word(SECOND, 65535);
        gym.endMacro();
        gym.use(0, NUMBER, 65534, NUMBER, 0);
        gym.use(0, NUMBER, 65535, NUMBER, 1);
        gym.use(0, NUMBER, 0, NUMBER, 65535);
        gym.assemble();
        image(gym, "arguments are taken modulo 65536", 65534, 65535, 65535, 65535, 0, 0, 0, 1, 65534);
    }

    private static void lineNumbers() {
        KernelGym gym = new KernelGym();
        gym.endMacro();
        error(gym, "the first line", KernelGym.NESTED, 0);
        gym = Edges.lines(99);
        gym.word(LABEL, 0);
        error(gym, "the last line", KernelGym.LABEL_MISSING, 99);
    }

    private static void sections() {
        KernelGym gym = new KernelGym();
        gym.word(NUMBER, 5);
        gym.label(1);
        gym.section(1);
        gym.label(2);
        gym.vector(0, LABEL, 1);
        gym.vector(1, LABEL, 2);
        gym.word(NUMBER, 6);
        gym.section(0);
        gym.word(NUMBER, 7);
        gym.assemble();
        image(gym, "the section 0 at first, the section 1 behind it", 5, 7, 6, 0);
        Check.due("a label where the section 0 goes on", 9, gym.image(0));
        Check.due("a label where the section 1 begins", 10, gym.image(1));
        gym.clear();
        gym.section(1);
        gym.label(0);
        gym.word(LABEL, 0);
        gym.section(0);
        gym.label(1);
        gym.vector(1, LABEL, 1);
        gym.assemble();
        image(gym, "the section 1 behind an empty one", 8, 0);
        Check.due("a label in an empty section", 8, gym.image(1));
        gym.clear();
        spaces(gym, 248);
        gym.label(0);
        gym.section(1);
        gym.label(1);
        gym.vector(0, LABEL, 0);
        gym.vector(1, LABEL, 1);
        gym.assemble();
        Check.due("a label behind 248 words", 256, gym.image(0));
        Check.due("a label in a section behind 248 words", 256, gym.image(1));
    }

    private static void spaces(KernelGym gym, int words) {
        for (int left = words; left > 0; left -= 32) {
            gym.space(Math.min(left, 32));
        }
    }

    private static void vectors() {
        KernelGym gym = new KernelGym();
        gym.macro(0);
        gym.vector(0, FIRST, 0);
        gym.endMacro();
        gym.assemble();
        Check.due("no vector is gone through", 0, gym.image(0));
        gym.vector(1, NUMBER, 65535);
        gym.assemble();
        Check.due("no vector for the timer", 0, gym.image(0));
        Check.due("a vector for keys", 65535, gym.image(1));
        gym.use(0, NUMBER, 30, NUMBER, 0);
        gym.vector(0, NUMBER, 31);
        plainUseOf(gym, 32);
        gym.assemble();
        Check.due("the last of three counts", 32, gym.image(0));
        gym.vector(0, NUMBER, 0);
        gym.vector(1, NUMBER, 3);
        gym.assemble();
        Check.due("the last one counts if it is 0, too", 0, gym.image(0));
        Check.due("the other one's last", 3, gym.image(1));
        Check.due("no words", 0, gym.assemble());
    }

    private static void plainUseOf(KernelGym gym, int first) {
        gym.use(0, NUMBER, first, NUMBER, 0);
    }

    private static void macrosAtTheirEdges() {
        KernelGym gym = new KernelGym();
        gym.macro(4);
        gym.endMacro();
        plainUse(gym, 4);
        Check.due("a macro without lines", 0, gym.assemble());
        gym.word(NUMBER, 3);
        gym.macro(0);
        gym.word(NUMBER, 4);
        gym.section(1);
        gym.endMacro();
        gym.word(NUMBER, 5);
        plainUse(gym, 0);
        gym.word(NUMBER, 6);
        plainUse(gym, 0);
        Check.due("its lines are not gone through where it is made", 5, gym.assemble());
        image(gym, "the section goes on out of a macro, and into it", 3, 5, 4, 6, 4);
        KernelGym bad = new KernelGym();
        bad.macro(0);
        bad.label(0);
        bad.label(0);
        bad.word(FIRST, 0);
        bad.word(LABEL, 9);
        plainUse(bad, 3);
        spaces(bad, 249);
        bad.endMacro();
        none(bad, "errors in a macro that is not used");
    }

    private static void macrosFiveDeep() {
        KernelGym gym = new KernelGym();
        gym.macro(0);
        gym.word(FIRST, 1);
        gym.word(SECOND, 1);
        gym.endMacro();
        for (int macro = 1; macro < 5; macro++) {
            gym.macro(macro);
            gym.use(macro - 1, SECOND, 1, FIRST, 10);
            gym.endMacro();
        }
        gym.use(4, NUMBER, 100, NUMBER, 65530);
        Check.due("the words of the innermost macro", 2, gym.assemble());
        // Each use swaps the arguments: four times, by which each gets 1 and 10 twice; then each word adds 1.
        image(gym, "arguments handed on", 100 + 22 + 1, 65530 + 22 + 1 - 65536);
    }

    /** The four labels of each of twenty uses, of which each one is at a place of its own. */
    private static void labelsOfEachUse() {
        KernelGym gym = new KernelGym();
        gym.macro(0);
        for (int label = 16; label <= 19; label++) {
            gym.label(label);
            gym.word(LABEL, label);
        }
        for (int label = 19; label >= 16; label--) {
            gym.word(LABEL, label);
        }
        gym.endMacro();
        for (int use = 0; use < 20; use++) {
            plainUse(gym, 0);
        }
        Check.due("the words of twenty uses", 160, gym.assemble());
        for (int use = 0; use < 20; use++) {
            for (int i = 0; i < 4; i++) {
                int at = 8 + 8 * use;
                Check.due("a label of the use " + use, at + i, gym.image(at + i));
                Check.due("and named once more", at + i, gym.image(at + 7 - i));
            }
        }
    }

    /** 292 uses of macros without lines, and one, the last, that has labels of its own and arguments. */
    private static void mostUses() {
        KernelGym gym = new KernelGym();
        plainMacro(gym, 0, 0);
        gym.macro(1);
        for (int i = 0; i < 72; i++) {
            plainUse(gym, 0);
        }
        gym.endMacro();
        gym.macro(2);
        gym.label(19);
        gym.word(LABEL, 19);
        gym.word(SECOND, 0);
        gym.endMacro();
        gym.section(1);
        for (int i = 0; i < 4; i++) {
            plainUse(gym, 1);
        }
        gym.use(2, NUMBER, 0, NUMBER, 77);
        Check.due("300 lines gone through, most of which use a macro", 2, gym.assemble());
        image(gym, "the last use", 8, 77, 0);
        gym.label(0);
        error(gym, "and one line more", KernelGym.TOO_LONG, gym.lines() - 1);
    }

    private static void labelsOfOneUse() {
        KernelGym gym = new KernelGym();
        gym.macro(0);
        gym.label(15);
        gym.endMacro();
        plainUse(gym, 0);
        gym.word(LABEL, 15);
        none(gym, "label 15 of a macro is named outside");
        gym.clear();
        gym.label(15);
        gym.macro(0);
        gym.word(LABEL, 15);
        gym.endMacro();
        plainUse(gym, 0);
        none(gym, "label 15 is named in a macro");
        for (int label = 16; label <= 19; label++) {
            ownLabel(label);
        }
    }

    private static void ownLabel(int label) {
        KernelGym gym = new KernelGym();
        gym.macro(0);
        gym.label(label);
        gym.word(LABEL, label);
        gym.word(FIRST, 0);
        gym.endMacro();
        plainUse(gym, 0);
        plainUse(gym, 0);
        gym.label(label);
        gym.use(0, LABEL, label, NUMBER, 0);
        gym.word(LABEL, label);
        gym.assemble();
        image(gym, "label " + label + " of each use, and outside", 8, 0, 10, 0, 12, 12, 12);
        gym.clear();
        gym.macro(0);
        gym.label(label);
        gym.endMacro();
        plainUse(gym, 0);
        gym.word(LABEL, label);
        error(gym, "label " + label + " of a use is named outside", KernelGym.LABEL_MISSING, 4);
        gym.clear();
        gym.label(label);
        gym.macro(0);
        gym.word(LABEL, label);
        gym.endMacro();
        plainUse(gym, 0);
        error(gym, "label " + label + " outside is named in a macro", KernelGym.LABEL_MISSING, 2);
        gym.clear();
        gym.macro(0);
        gym.word(LABEL, label);
        gym.endMacro();
        gym.macro(1);
        gym.label(label);
        plainUse(gym, 0);
        gym.endMacro();
        plainUse(gym, 1);
        error(gym, "label " + label + " of a macro that uses it", KernelGym.LABEL_MISSING, 1);
        gym.clear();
        gym.macro(0);
        gym.label(label);
        gym.endMacro();
        gym.macro(1);
        plainUse(gym, 0);
        gym.word(LABEL, label);
        gym.endMacro();
        plainUse(gym, 1);
        error(gym, "label " + label + " of a macro that it uses", KernelGym.LABEL_MISSING, 5);
    }

    /** Lines 0 to 47, by which 281 lines are gone through: one begins a macro of 39 lines, seven use it. */
    private static KernelGym gone281() {
        KernelGym gym = new KernelGym();
        plainMacro(gym, 0, 39);
        for (int i = 0; i < 7; i++) {
            plainUse(gym, 0);
        }
        return gym;
    }

    /** Lines 0 to 65, by which 299 lines are gone through. */
    private static KernelGym gone299() {
        KernelGym gym = gone281();
        gym.label(3);
        for (int i = 0; i < 17; i++) {
            gym.section(0);
        }
        return gym;
    }

    private static void linesGoneThrough() {
        Edges.CallOn[] lines = {gym -> gym.section(1), gym -> gym.label(0), gym -> gym.code(0, 0, 0, NUMBER, 0),
            gym -> gym.word(NUMBER, 0), gym -> gym.space(1), gym -> gym.vector(0, NUMBER, 0)};
        for (int i = 0; i < lines.length; i++) {
            KernelGym gym = gone299();
            lines[i].on(gym);
            none(gym, "300 lines gone through, the last of the kind " + i);
            gym = gone299();
            gym.section(0);
            lines[i].on(gym);
            error(gym, "301 lines gone through, the last of the kind " + i, KernelGym.TOO_LONG, 67);
        }
        KernelGym gym = gone299();
        gym.macro(1);
        gym.word(FIRST, 0);
        gym.endMacro();
        none(gym, "the 300th line begins a macro");
        plainUse(gym, 1);
        error(gym, "the 301st line uses it", KernelGym.TOO_LONG, 69);
        gym = gone281();
        for (int i = 0; i < 17; i++) {
            gym.section(0);
        }
        gym.macro(1);
        gym.endMacro();
        plainUse(gym, 1);
        none(gym, "the 300th line uses a macro without lines");
        gym.section(0);
        error(gym, "the 301st line is behind it", KernelGym.TOO_LONG, 68);
    }

    private static KernelGym gone300InMacros() {
        KernelGym gym = new KernelGym();
        plainMacro(gym, 0, 9);
        gym.macro(1);
        for (int i = 0; i < 14; i++) {
            plainUse(gym, 0);
        }
        for (int i = 0; i < 8; i++) {
            gym.vector(0, NUMBER, 0);
        }
        gym.endMacro();
        return gym;
    }

    /** Two lines begin macros; each use of the macro 1 is one line, 14 uses with 9 lines each, and 8 more lines. */
    private static void linesGoneThroughInMacros() {
        KernelGym gym = gone300InMacros();
        plainUse(gym, 1);
        plainUse(gym, 1);
        none(gym, "300 lines gone through in macros");
        gym.section(0);
        error(gym, "301 lines gone through, the last one outside", KernelGym.TOO_LONG, 37);
        gym = gone300InMacros();
        gym.section(0);
        plainUse(gym, 1);
        plainUse(gym, 1);
        error(gym, "the 301st line is the last one of a macro", KernelGym.TOO_LONG, 33);
        gym = gone300InMacros();
        for (int i = 0; i < 9; i++) {
            gym.section(0);
        }
        plainUse(gym, 1);
        plainUse(gym, 1);
        error(gym, "the 301st line is the last one of a macro that is used in a macro", KernelGym.TOO_LONG, 9);
    }

    private static void mostWords() {
        for (int section = 0; section < 2; section++) {
            KernelGym gym = new KernelGym();
            gym.section(section);
            spaces(gym, 246);
            gym.code(0, 0, 0, NUMBER, 0);
            Check.due("248 words by an instruction", 248, gym.assemble());
            gym.word(NUMBER, 0);
            error(gym, "249 words by a word", KernelGym.TOO_LONG, 10);
            gym.clear();
            spaces(gym, 247);
            gym.section(section);
            gym.word(NUMBER, 0);
            Check.due("248 words by a word", 248, gym.assemble());
            gym.space(1);
            error(gym, "249 words by a space", KernelGym.TOO_LONG, 10);
            gym.clear();
            spaces(gym, 247);
            gym.section(section);
            gym.code(0, 0, 0, NUMBER, 0);
            error(gym, "249 words by an instruction", KernelGym.TOO_LONG, 9);
            gym.clear();
            spaces(gym, 216);
            gym.section(section);
            gym.space(32);
            Check.due("248 words by a space", 248, gym.assemble());
            gym.label(0);
            gym.vector(0, LABEL, 0);
            gym.macro(0);
            gym.word(FIRST, 0);
            gym.endMacro();
            Check.due("lines without words behind 248", 248, gym.assemble());
            plainUse(gym, 0);
            error(gym, "249 words by a macro", KernelGym.TOO_LONG, 12);
        }
    }

    private static void labelTwice() {
        for (int label : new int[] {0, 15, 16, 19}) {
            KernelGym gym = new KernelGym();
            gym.label(label);
            none(gym, "label " + label + " once");
            gym.section(1);
            gym.label(label);
            error(gym, "label " + label + " twice outside", KernelGym.LABEL_TWICE, 2);
            gym.clear();
            gym.macro(0);
            gym.label(label);
            gym.endMacro();
            plainUse(gym, 0);
            none(gym, "label " + label + " in one use");
            gym.label(label);
            int twice = 100 * KernelGym.LABEL_TWICE;
            Check.due("label " + label + " in a use and outside", label < 16 ? twice + 4 : 0, gym.error());
            gym.clear();
            gym.macro(0);
            gym.label(label);
            gym.endMacro();
            plainUse(gym, 0);
            plainUse(gym, 0);
            Check.due("label " + label + " in two uses", label < 16 ? twice + 1 : 0, gym.error());
            gym.clear();
            gym.macro(0);
            gym.label(label);
            gym.endMacro();
            gym.macro(1);
            gym.label(label);
            plainUse(gym, 0);
            gym.endMacro();
            plainUse(gym, 1);
            Check.due("label " + label + " in a use in a use", label < 16 ? twice + 1 : 0, gym.error());
            gym.clear();
            gym.macro(0);
            gym.label(label);
            gym.label(label);
            gym.endMacro();
            plainUse(gym, 0);
            error(gym, "label " + label + " twice in one use", KernelGym.LABEL_TWICE, 2);
        }
    }

    private static void macroTwice() {
        for (int macro : new int[] {0, 4}) {
            KernelGym gym = new KernelGym();
            plainMacro(gym, macro, 0);
            plainUse(gym, macro);
            plainUse(gym, macro);
            none(gym, "macro " + macro + " begun once and used twice");
            plainMacro(gym, macro, 0);
            error(gym, "macro " + macro + " begun twice", KernelGym.MACRO_TWICE, 4);
        }
        KernelGym all = new KernelGym();
        for (int macro = 0; macro < 5; macro++) {
            plainMacro(all, macro, 1);
        }
        none(all, "all macros begun once");
    }

    private static void nested() {
        KernelGym gym = new KernelGym();
        gym.macro(3);
        error(gym, "nothing behind the line that begins a macro", KernelGym.NESTED, 0);
        gym.word(NUMBER, 0);
        error(gym, "no end behind the line that begins a macro", KernelGym.NESTED, 0);
        gym.endMacro();
        none(gym, "the end behind a line that begins a macro");
        gym.endMacro();
        error(gym, "an end where none was begun any more", KernelGym.NESTED, 3);
        gym = Edges.lines(98);
        gym.macro(0);
        error(gym, "a macro begun at the line 98", KernelGym.NESTED, 98);
        gym.endMacro();
        none(gym, "a macro ended at the line 99");
        gym = Edges.lines(99);
        gym.macro(0);
        error(gym, "a macro begun at the line 99", KernelGym.NESTED, 99);
        for (int other = 0; other < 5; other++) {
            gym = new KernelGym();
            plainMacro(gym, 4, 0);
            gym.macro(1);
            gym.label(0);
            gym.label(0);
            gym.macro(other);
            error(gym, "macro " + other + " begun in macro 1", KernelGym.NESTED, 5);
            gym.endMacro();
            gym.endMacro();
            error(gym, "macro " + other + " begun in macro 1, and ended", KernelGym.NESTED, 5);
        }
    }

    private static void macroMissing() {
        for (int macro : new int[] {0, 4}) {
            KernelGym gym = new KernelGym();
            plainUse(gym, macro);
            error(gym, "macro " + macro + " used, not begun", KernelGym.MACRO_MISSING, 0);
            plainMacro(gym, macro, 1);
            error(gym, "macro " + macro + " used ahead of its begin", KernelGym.MACRO_MISSING, 0);
            gym.clear();
            plainMacro(gym, macro, 1);
            plainUse(gym, macro);
            none(gym, "macro " + macro + " used right behind it");
        }
        KernelGym gym = new KernelGym();
        gym.macro(0);
        plainUse(gym, 1);
        gym.endMacro();
        plainUse(gym, 0);
        plainMacro(gym, 1, 1);
        error(gym, "a macro used in a macro ahead of its begin", KernelGym.MACRO_MISSING, 1);
        gym.clear();
        gym.macro(0);
        plainUse(gym, 1);
        gym.endMacro();
        plainMacro(gym, 1, 1);
        plainUse(gym, 0);
        none(gym, "a macro used in a macro, the use behind both");
    }

    private static void macroBusy() {
        KernelGym gym = new KernelGym();
        gym.macro(0);
        gym.word(NUMBER, 1);
        plainUse(gym, 0);
        gym.endMacro();
        none(gym, "a macro in whose lines it is used, not used");
        plainUse(gym, 0);
        error(gym, "a macro used in its own lines", KernelGym.MACRO_MISSING, 2);
        gym.clear();
        for (int macro = 0; macro < 5; macro++) {
            gym.macro(macro);
            plainUse(gym, (macro + 4) % 5);
            gym.endMacro();
        }
        plainUse(gym, 4);
        error(gym, "five macros in a ring", KernelGym.MACRO_MISSING, 1);
        gym.clear();
        plainMacro(gym, 0, 1);
        for (int macro = 1; macro < 5; macro++) {
            gym.macro(macro);
            plainUse(gym, macro - 1);
            plainUse(gym, macro - 1);
            gym.endMacro();
        }
        plainUse(gym, 4);
        plainUse(gym, 0);
        none(gym, "five macros that use one another, each one twice");
    }

    private static void labelMissing() {
        for (int label : new int[] {0, 15, 16, 19}) {
            KernelGym gym = new KernelGym();
            plainMacro(gym, 0, 1);
            Edges.CallOn[] lines = {line -> line.code(12, 0, 0, LABEL, label), line -> line.word(LABEL, label),
                line -> line.vector(1, LABEL, label), line -> line.use(0, LABEL, label, NUMBER, 0),
                line -> line.use(0, NUMBER, 0, LABEL, label)};
            for (Edges.CallOn line : lines) {
                gym.clear();
                plainMacro(gym, 0, 1);
                line.on(gym);
                error(gym, "label " + label + " is not set", KernelGym.LABEL_MISSING, 3);
                gym.label(label == 0 ? 1 : label - 1);
                error(gym, "another label than " + label + " is set", KernelGym.LABEL_MISSING, 3);
                gym.label(label);
                none(gym, "label " + label + " is set behind the line");
            }
        }
    }

    private static void noArgument() {
        for (int kind : new int[] {FIRST, SECOND}) {
            Edges.CallOn[] lines = {line -> line.code(0, 0, 0, kind, 0), line -> line.word(kind, 65535),
                line -> line.vector(0, kind, 0), line -> line.use(0, kind, 0, NUMBER, 0),
                line -> line.use(0, NUMBER, 0, kind, 0)};
            for (Edges.CallOn line : lines) {
                KernelGym gym = new KernelGym();
                plainMacro(gym, 0, 0);
                line.on(gym);
                error(gym, "an argument outside of macros", KernelGym.NO_ARGUMENT, 2);
                gym.clear();
                plainMacro(gym, 0, 0);
                gym.macro(1);
                line.on(gym);
                gym.endMacro();
                plainUse(gym, 1);
                none(gym, "an argument in a macro");
                line.on(gym);
                error(gym, "an argument behind a macro", KernelGym.NO_ARGUMENT, 6);
            }
        }
    }

    private static void operandsOfUse() {
        int[][] cases = {{FIRST, 0, LABEL, 9, KernelGym.NO_ARGUMENT}, {LABEL, 9, SECOND, 0, KernelGym.LABEL_MISSING},
            {NUMBER, 0, LABEL, 9, KernelGym.LABEL_MISSING}, {NUMBER, 0, FIRST, 0, KernelGym.NO_ARGUMENT},
            {SECOND, 0, FIRST, 0, KernelGym.NO_ARGUMENT}, {LABEL, 8, LABEL, 9, KernelGym.LABEL_MISSING}};
        for (int[] row : cases) {
            KernelGym gym = new KernelGym();
            gym.macro(0);
            gym.word(LABEL, 7);
            gym.endMacro();
            gym.use(0, row[0], row[1], row[2], row[3]);
            error(gym, "operands of the kinds " + row[0] + " and " + row[2], row[4], 3);
        }
    }

    /** Each of the errors of the first time, behind a line that is one the second time. */
    private static void firstTimeFirst() {
        KernelGym gym = new KernelGym();
        gym.word(LABEL, 0);
        spaces(gym, 248);
        error(gym, "too long behind a label that is missing", KernelGym.TOO_LONG, 8);
        gym.clear();
        gym.word(FIRST, 0);
        gym.label(1);
        gym.label(1);
        error(gym, "a label twice behind no argument", KernelGym.LABEL_TWICE, 2);
        gym.clear();
        gym.word(LABEL, 0);
        plainMacro(gym, 0, 0);
        plainMacro(gym, 0, 0);
        error(gym, "a macro twice behind a label that is missing", KernelGym.MACRO_TWICE, 3);
        gym.clear();
        gym.word(LABEL, 0);
        gym.endMacro();
        error(gym, "an end behind a label that is missing", KernelGym.NESTED, 1);
        gym.clear();
        gym.use(0, FIRST, 0, NUMBER, 0);
        error(gym, "a macro that is missing, with no argument", KernelGym.MACRO_MISSING, 0);
        gym.clear();
        gym.label(1);
        gym.label(1);
        gym.endMacro();
        plainUse(gym, 0);
        error(gym, "the first line of several", KernelGym.LABEL_TWICE, 1);
        gym.clear();
        gym.word(NUMBER, 0);
        gym.word(FIRST, 0);
        gym.word(LABEL, 0);
        error(gym, "the first line of several the second time", KernelGym.NO_ARGUMENT, 1);
    }

    private static void severalAtOneLine() {
        Edges.CallOn[] lines = {gym -> gym.label(3), gym -> gym.macro(0), gym -> gym.macro(1), gym -> gym.endMacro(),
            gym -> gym.use(4, NUMBER, 0, NUMBER, 0), gym -> gym.use(4, FIRST, 0, NUMBER, 0)};
        int[] errors = {KernelGym.LABEL_TWICE, KernelGym.MACRO_TWICE, KernelGym.NESTED, KernelGym.NESTED,
            KernelGym.MACRO_MISSING, KernelGym.MACRO_MISSING};
        for (int i = 0; i < lines.length; i++) {
            KernelGym gym = gone299();
            lines[i].on(gym);
            error(gym, "an error of the 300th line", errors[i], 66);
            gym = gone299();
            gym.section(0);
            lines[i].on(gym);
            error(gym, "an error of the 301st line, which is too long", KernelGym.TOO_LONG, 67);
        }
        KernelGym gym = new KernelGym();
        plainMacro(gym, 2, 0);
        gym.macro(2);
        error(gym, "a macro twice that nothing ends", KernelGym.MACRO_TWICE, 2);
        gym.macro(3);
        gym.endMacro();
        error(gym, "a macro twice that another one follows", KernelGym.MACRO_TWICE, 2);
        gym = gone299();
        gym.macro(1);
        gym.macro(2);
        gym.endMacro();
        error(gym, "one does not come to a macro in a macro", KernelGym.NESTED, 67);
    }

    private static void lastLineAsks() {
        KernelGym gym = Edges.lines(97);
        gym.macro(0);
        gym.endMacro();
        gym.use(0, LABEL, 4, NUMBER, 0);
        error(gym, "the last line's first operand", KernelGym.LABEL_MISSING, 99);
        gym = new KernelGym();
        gym.macro(0);
        gym.word(SECOND, 0);
        gym.endMacro();
        for (int i = 3; i < 99; i++) {
            gym.section(1);
        }
        gym.use(0, NUMBER, 1, NUMBER, 65535);
        Check.due("the last line's words", 1, gym.assemble());
        Check.due("the last line's second operand", 65535, gym.image(8));
    }

    private static void newObject() {
        Check.promise(1);
        KernelGym gym = new KernelGym();
        Check.due("the machine", KernelGym.OFF, gym.state());
        Check.due("lines", 0, gym.lines());
        Check.due("error", 0, gym.error());
        Check.due("tests", 0, gym.tests());
        Check.due("mark", 0, gym.mark());
        Check.due("files", 0, gym.files());
        Check.due("blocks written", 0, gym.written());
        Check.untimely(gym, "nothing was assembled: image", () -> gym.image(255));
        Check.untimely(gym, "nothing was assembled: start", () -> gym.start());
        Check.untimely(gym, "nothing was assembled: submit", () -> gym.submit());
        Check.refused(gym, "no test: result", IndexOutOfBoundsException.class, () -> gym.result(0));
        for (int block = 0; block < 32; block++) {
            for (int place = 0; place < 8; place++) {
                Check.due("disk " + block + " " + place, block == 4 && place == 0 ? 255 : 0, gym.disk(block, place));
            }
        }
    }

    private static void clear() {
        Check.promise(2);
        KernelGym gym = new KernelGym();
        Check.due("no lines", 0, gym.clear());
        gym.word(NUMBER, 7);
        gym.assemble();
        gym.endMacro();
        Check.due("lines", 2, gym.clear());
        Check.due("no lines then", 0, gym.lines());
        Check.due("no error then", 0, gym.error());
        Check.due("the image stays", 7, gym.image(8));
        Check.due("it is started with", 0, gym.start());
        Check.due("and is in the memory", 7, gym.memory(8));
        KernelGym full = Edges.lines100();
        Check.due("100 lines", 100, full.clear());
        Check.due("a line then", 1, full.section(0));
        KernelGym labels = new KernelGym();
        labels.label(0);
        labels.clear();
        labels.label(0);
        Check.due("labels of lines that were cleared", 0, labels.error());
    }

    private static void lines() {
        Check.promise(3);
        for (int lines : new int[] {0, 1, 99, 100}) {
            Check.due("so many lines", lines, Edges.lines(lines).lines());
        }
        KernelGym full = Edges.lines100();
        Check.untimely(full, "the 101st line", () -> full.section(0));
        Check.due("lines behind it", 100, full.lines());
        KernelGym none = new KernelGym();
        Check.outside(none, "a line out of range", () -> none.label(20));
        Check.due("lines behind that", 0, none.lines());
    }

    private static void linesWithOneNumber() {
        Check.promise(4);
        Edges.range("section", 0, 1, 100, Edges::lines99, (gym, number) -> gym.section(number));
        Check.promise(5);
        Edges.range("label", 0, 19, 100, Edges::lines99, (gym, number) -> gym.label(number));
        Check.promise(8);
        Edges.range("space", 1, 32, 100, Edges::lines99, (gym, number) -> gym.space(number));
        Check.promise(10);
        Edges.range("macro", 0, 4, 100, Edges::lines99, (gym, number) -> gym.macro(number));
    }

    private static void codes() {
        Check.promise(6);
        Edges.range("operation", 0, 26, 100, Edges::lines99, (gym, number) -> gym.code(number, 0, 0, NUMBER, 0));
        Edges.range("d", 0, 3, 100, Edges::lines99, (gym, number) -> gym.code(0, number, 0, NUMBER, 0));
        Edges.range("s", 0, 3, 100, Edges::lines99, (gym, number) -> gym.code(0, 0, number, NUMBER, 0));
        KernelGym gym = new KernelGym();
        gym.code(0, 0, 0, NUMBER, 0);
        gym.code(26, 3, 3, NUMBER, 65535);
        gym.code(1, 0, 3, NUMBER, 1);
        gym.code(1, 3, 0, NUMBER, 1);
        gym.assemble();
        image(gym, "the words of instructions", 0, 0, 16 * 26 + 15, 65535, 16 + 3, 1, 16 + 12, 1);
    }

    private static void operands() {
        Check.promise(6);
        operand("of an instruction", (gym, kind, n) -> gym.code(1, 2, 3, kind, n));
        Check.promise(7);
        operand("of a word", (gym, kind, n) -> gym.word(kind, n));
        Check.promise(9);
        Edges.range("address", 0, 1, 100, Edges::lines99, (gym, number) -> gym.vector(number, NUMBER, 0));
        operand("of a vector for the timer", (gym, kind, n) -> gym.vector(0, kind, n));
        operand("of a vector for keys", (gym, kind, n) -> gym.vector(1, kind, n));
    }

    /** A line with an operand. */
    private interface WithOperand {
        long on(KernelGym gym, int kind, int n);
    }

    private static void operand(String what, WithOperand line) {
        Edges.range("the kind " + what, NUMBER, SECOND, 100, Edges::lines99, (gym, number) -> line.on(gym, number, 0));
        Edges.range("the label " + what, 0, 19, 100, Edges::lines99, (gym, number) -> line.on(gym, LABEL, number));
        for (int kind : KINDS_OF_WORDS) {
            Edges.range("the number " + what + ", kind " + kind, 0, 65535, 100, Edges::lines99,
                (gym, number) -> line.on(gym, kind, number));
        }
    }

    private static void uses() {
        Check.promise(12);
        Edges.range("macro", 0, 4, 100, Edges::lines99, (gym, number) -> gym.use(number, NUMBER, 0, NUMBER, 0));
        operand("of a use", (gym, kind, n) -> gym.use(0, kind, n, NUMBER, 0));
        operand("of a use, the second one", (gym, kind, n) -> gym.use(4, LABEL, 19, kind, n));
    }

    private static void ends() {
        Check.promise(11);
        Check.due("the first line", 1, new KernelGym().endMacro());
        Check.due("the last line", 100, Edges.lines99().endMacro());
    }

    /** What is out of range is told first; otherwise a full source refuses each line. */
    private static void fullSource() {
        Check.promise(4);
        full("section", gym -> gym.section(1), gym -> gym.section(2));
        Check.promise(5);
        full("label", gym -> gym.label(19), gym -> gym.label(20));
        Check.promise(6);
        full("code", gym -> gym.code(26, 3, 3, LABEL, 19), gym -> gym.code(27, 3, 3, LABEL, 19));
        full("code with d", gym -> gym.code(0, 0, 0, NUMBER, 0), gym -> gym.code(0, 4, 0, NUMBER, 0));
        full("code with s", gym -> gym.code(0, 0, 0, NUMBER, 0), gym -> gym.code(0, 0, -1, NUMBER, 0));
        full("code with n", gym -> gym.code(0, 0, 0, FIRST, 65535), gym -> gym.code(0, 0, 0, FIRST, 65536));
        Check.promise(7);
        full("word", gym -> gym.word(SECOND, 65535), gym -> gym.word(SECOND, 65536));
        full("word with a kind", gym -> gym.word(NUMBER, 0), gym -> gym.word(4, 0));
        Check.promise(8);
        full("space", gym -> gym.space(32), gym -> gym.space(33));
        Check.promise(9);
        full("vector", gym -> gym.vector(1, NUMBER, 0), gym -> gym.vector(2, NUMBER, 0));
        full("vector with n", gym -> gym.vector(1, LABEL, 19), gym -> gym.vector(1, LABEL, 20));
        Check.promise(10);
        full("macro", gym -> gym.macro(4), gym -> gym.macro(5));
        Check.promise(11);
        Edges.untimely("endMacro with 100 lines", Edges::lines100, gym -> gym.endMacro());
        Check.promise(12);
        full("use", gym -> gym.use(4, NUMBER, 0, NUMBER, 0), gym -> gym.use(5, NUMBER, 0, NUMBER, 0));
        full("use with n", gym -> gym.use(0, LABEL, 19, NUMBER, 0), gym -> gym.use(0, LABEL, 20, NUMBER, 0));
        full("use with n2", gym -> gym.use(0, NUMBER, 0, LABEL, 19), gym -> gym.use(0, NUMBER, 0, LABEL, 20));
    }

    private static void full(String what, Edges.CallOn good, Edges.CallOn bad) {
        Edges.untimely(what + " with 100 lines", Edges::lines100, good);
        Edges.outside(what + " out of range with 100 lines", Edges::lines100, bad);
    }

    private static void error() {
        Check.promise(13);
        Check.due("an empty source", 0, new KernelGym().error());
        Check.due("a full source", 0, Edges.lines100().error());
        KernelGym first = new KernelGym();
        first.word(FIRST, 0);
        Check.due("an error of the line 0", 700, first.error());
        KernelGym last = Edges.lines99();
        last.macro(0);
        Check.due("an error of the line 99", 499, last.error());
        KernelGym inMacro = new KernelGym();
        inMacro.macro(0);
        inMacro.label(5);
        inMacro.endMacro();
        plainUse(inMacro, 0);
        plainUse(inMacro, 0);
        Check.due("an error in a macro", 201, inMacro.error());
        Check.due("the same error again", 201, inMacro.error());
    }

    private static void assemble() {
        Check.promise(14);
        KernelGym gym = new KernelGym();
        Check.due("no lines", 0, gym.assemble());
        Check.due("they are an image", 0, gym.start());
        spaces(gym, 247);
        gym.word(NUMBER, 9);
        gym.vector(1, NUMBER, 8);
        Check.due("248 words", 248, gym.assemble());
        Check.due("the last word", 9, gym.image(255));
        Check.due("a machine that is on keeps its memory", 0, gym.memory(255) + gym.memory(1));
        gym.crash();
        gym.start();
        Check.due("the memory of the next start", 9 + 8, gym.memory(255) + gym.memory(1));
        gym.clear();
        Check.due("no words", 0, gym.assemble());
        Check.due("the image has no words then", 0, gym.image(255) + gym.image(1));
        Check.due("the machine keeps them", 9 + 8, gym.memory(255) + gym.memory(1));
        Edges.untimely("an error of the first time", () -> withError(true), bad -> bad.assemble());
        Edges.untimely("an error of the second time", () -> withError(false), bad -> bad.assemble());
        KernelGym never = new KernelGym();
        never.endMacro();
        Check.untimely(never, "an error", () -> never.assemble());
        Check.untimely(never, "then nothing was assembled", () -> never.image(0));
    }

    /** A machine that runs; its source was changed behind that, and has an error. */
    private static KernelGym withError(boolean firstTime) {
        KernelGym gym = Edges.running();
        gym.word(NUMBER, 99);
        gym.vector(0, NUMBER, 99);
        if (firstTime) {
            gym.endMacro();
        } else {
            gym.word(LABEL, 9);
        }
        return gym;
    }

    private static void image() {
        Check.promise(15);
        KernelGym gym = new KernelGym();
        gym.vector(0, NUMBER, 3);
        gym.vector(1, NUMBER, 4);
        gym.word(NUMBER, 5);
        gym.assemble();
        Check.due("the address 0", 3, gym.image(0));
        Check.due("the address 1", 4, gym.image(1));
        for (int address = 2; address < 256; address++) {
            Check.due("the address " + address, address == 8 ? 5 : 0, gym.image(address));
        }
        for (int bad : new int[] {-1, 256, Integer.MIN_VALUE, Integer.MAX_VALUE}) {
            Edges.outside("the address " + bad, Edges::running, other -> other.image(bad));
            Edges.outside("the address " + bad + " of no image", KernelGym::new, other -> other.image(bad));
        }
        Edges.untimely("no image", KernelGym::new, other -> other.image(0));
        Edges.untimely("no image at its end", Edges::lines100, other -> other.image(255));
    }
}
