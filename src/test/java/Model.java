import java.util.ArrayList;
import java.util.Arrays;
import java.util.HashMap;
import java.util.HashSet;
import java.util.LinkedHashMap;
import java.util.List;
import java.util.Map;
import java.util.NoSuchElementException;
import java.util.Set;
import java.util.TreeMap;

/**
 * The document once more, written in another way than the class: whole copies of the machine are kept, lines are
 * written out into lists, and a file call works on a list of files that is put on the disk anew.
 */
final class Model {
    /** A line that is gone through: what it is, where it stands, and the use of a macro to which it belongs. */
    private record Gone(int[] line, int at, int use, int[] user, int userOfUse) {
    }

    private static final class SourceError extends RuntimeException {
        private static final long serialVersionUID = 1;
        final int code;

        SourceError(int error, int line) {
            code = 100 * error + line;
        }
    }

    private static final class FileOf {
        int name;
        List<Integer> words = new ArrayList<>();
        List<Integer> blocks = new ArrayList<>();
    }

    private static final class State {
        int state, fault, steps, counter, stack = 0, interval, time, read, written;
        boolean zero, less, on, timer, key;
        int[] register = new int[4], memory = new int[256], disk = new int[256];
        List<Integer> tape = new ArrayList<>();
        List<int[]> writes = new ArrayList<>();
        Set<Integer> changed = new HashSet<>();

        State copy() {
            State other = new State();
            other.state = state;
            other.fault = fault;
            other.steps = steps;
            other.counter = counter;
            other.stack = stack;
            other.interval = interval;
            other.time = time;
            other.read = read;
            other.written = written;
            other.zero = zero;
            other.less = less;
            other.on = on;
            other.timer = timer;
            other.key = key;
            other.register = register.clone();
            other.memory = memory.clone();
            other.disk = disk.clone();
            other.tape = new ArrayList<>(tape);
            other.writes = new ArrayList<>(writes);
            other.changed = new HashSet<>(changed);
            return other;
        }
    }

    private final List<int[]> lines = new ArrayList<>();
    private int[] image;
    private State now = off(formatted());
    private List<State> history = new ArrayList<>();
    private State first;
    private List<int[]> told = new ArrayList<>();
    private List<Integer> draftKeys = new ArrayList<>();
    private List<Integer> draftWords = new ArrayList<>();
    private final List<Object[]> tests = new ArrayList<>();
    private final List<List<Integer>> submissions = new ArrayList<>();

    private static int[] formatted() {
        int[] disk = new int[256];
        disk[32] = 255;
        return disk;
    }

    private static State off(int[] disk) {
        State state = new State();
        state.disk = disk;
        return state;
    }

    // ---- the source: a line is {what, number, kind, n, kind2, n2}

    private static final int SECTION = 0, LABEL = 1, CODE = 2, WORD = 3, SPACE = 4, VECTOR = 5, MACRO = 6, END = 7,
        USE = 8;

    private static void range(int number, int least, int most) {
        if (number < least || number > most) {
            throw new IllegalArgumentException();
        }
    }

    private static void state(boolean holds) {
        if (!holds) {
            throw new IllegalStateException();
        }
    }

    private static void operand(int kind, int n) {
        range(kind, 0, 3);
        range(n, 0, kind == 1 ? 19 : 65535);
    }

    private int add(int... line) {
        state(lines.size() < 100);
        lines.add(Arrays.copyOf(line, 6));
        return lines.size();
    }

    int clear() {
        int size = lines.size();
        lines.clear();
        return size;
    }

    int lines() {
        return lines.size();
    }

    int section(int section) {
        range(section, 0, 1);
        return add(SECTION, section);
    }

    int label(int label) {
        range(label, 0, 19);
        return add(LABEL, label);
    }

    int code(int operation, int d, int s, int kind, int n) {
        range(operation, 0, 26);
        range(d, 0, 3);
        range(s, 0, 3);
        operand(kind, n);
        return add(CODE, operation << 4 | d << 2 | s, kind, n);
    }

    int word(int kind, int n) {
        operand(kind, n);
        return add(WORD, 0, kind, n);
    }

    int space(int words) {
        range(words, 1, 32);
        return add(SPACE, words);
    }

    int vector(int address, int kind, int n) {
        range(address, 0, 1);
        operand(kind, n);
        return add(VECTOR, address, kind, n);
    }

    int macro(int macro) {
        range(macro, 0, 4);
        return add(MACRO, macro);
    }

    int endMacro() {
        return add(END, 0);
    }

    int use(int macro, int kind, int n, int kind2, int n2) {
        range(macro, 0, 4);
        operand(kind, n);
        operand(kind2, n2);
        return add(USE, macro, kind, n, kind2, n2);
    }

    /** What the first time has found: lines in the order in which they are gone through, and where labels are. */
    private static final class Way {
        final List<Gone> gone = new ArrayList<>();
        final Map<String, int[]> labels = new HashMap<>();
        final Map<Integer, int[]> macros = new LinkedHashMap<>();
        final List<Integer> busy = new ArrayList<>();
        int[] sizes = new int[2];
        int section;
        int uses;
    }

    private void walk(Way way, int from, int to, int use, int[] user, int userOfUse) {
        int at = from;
        while (at < to) {
            int[] line = lines.get(at);
            way.gone.add(new Gone(line, at, use, user, userOfUse));
            if (way.gone.size() == 301) {
                throw new SourceError(KernelGym.TOO_LONG, at);
            }
            int next = at + 1;
            int words = line[0] == CODE ? 2 : line[0] == WORD ? 1 : line[0] == SPACE ? line[1] : 0;
            if (words > 0) {
                way.sizes[way.section] += words;
                if (way.sizes[0] + way.sizes[1] > 248) {
                    throw new SourceError(KernelGym.TOO_LONG, at);
                }
            } else if (line[0] == SECTION) {
                way.section = line[1];
            } else if (line[0] == LABEL) {
                String name = nameOf(line[1], use);
                if (way.labels.containsKey(name)) {
                    throw new SourceError(KernelGym.LABEL_TWICE, at);
                }
                way.labels.put(name, new int[] {way.section, way.sizes[way.section]});
            } else if (line[0] == MACRO) {
                next = endOf(way, line[1], at) + 1;
            } else if (line[0] == END) {
                throw new SourceError(KernelGym.NESTED, at);
            } else if (line[0] == USE) {
                if (!way.macros.containsKey(line[1]) || way.busy.contains(line[1])) {
                    throw new SourceError(KernelGym.MACRO_MISSING, at);
                }
                int[] span = way.macros.get(line[1]);
                way.busy.add(line[1]);
                way.uses++;
                walk(way, span[0], span[1], way.uses, line, use);
                way.busy.remove(way.busy.size() - 1);
            }
            at = next;
        }
    }

    private static String nameOf(int label, int use) {
        return label < 16 ? "all " + label : use + " " + label;
    }

    private int endOf(Way way, int macro, int at) {
        if (way.macros.containsKey(macro)) {
            throw new SourceError(KernelGym.MACRO_TWICE, at);
        }
        int end = at + 1;
        while (end < lines.size() && lines.get(end)[0] != END && lines.get(end)[0] != MACRO) {
            end++;
        }
        if (end == lines.size()) {
            throw new SourceError(KernelGym.NESTED, at);
        }
        if (lines.get(end)[0] == MACRO) {
            throw new SourceError(KernelGym.NESTED, end);
        }
        way.macros.put(macro, new int[] {at + 1, end});
        return end;
    }

    private int valueOf(Way way, Map<Integer, int[]> arguments, Gone gone, int kind, int n) {
        if (kind == 0) {
            return n;
        }
        if (kind == 1) {
            int[] place = way.labels.get(nameOf(n, gone.use));
            if (place == null) {
                throw new SourceError(KernelGym.LABEL_MISSING, gone.at);
            }
            return place[0] == 0 ? 8 + place[1] : 8 + way.sizes[0] + place[1];
        }
        if (gone.use == 0) {
            throw new SourceError(KernelGym.NO_ARGUMENT, gone.at);
        }
        return (arguments.get(gone.use)[kind - 2] + n) % 65536;
    }

    /** Answers the image, and behind it how many words both sections have. */
    private int[] assembled() {
        Way way = new Way();
        walk(way, 0, lines.size(), 0, null, 0);
        Map<Integer, int[]> arguments = new HashMap<>();
        List<List<Integer>> sections = List.of(new ArrayList<>(), new ArrayList<>());
        int[] result = new int[257];
        int section = 0;
        int use = 0;
        for (Gone gone : way.gone) {
            int[] line = gone.line;
            if (line[0] == SECTION) {
                section = line[1];
            }
            if (line[0] == SPACE) {
                for (int i = 0; i < line[1]; i++) {
                    sections.get(section).add(0);
                }
            }
            if (line[0] == CODE || line[0] == WORD || line[0] == VECTOR || line[0] == USE) {
                int value = valueOf(way, arguments, gone, line[2], line[3]);
                if (line[0] == CODE) {
                    sections.get(section).add(line[1]);
                }
                if (line[0] == CODE || line[0] == WORD) {
                    sections.get(section).add(value);
                }
                if (line[0] == VECTOR) {
                    result[line[1]] = value;
                }
                if (line[0] == USE) {
                    use++;
                    arguments.put(use, new int[] {value, valueOf(way, arguments, gone, line[4], line[5])});
                }
            }
        }
        List<Integer> all = new ArrayList<>(sections.get(0));
        all.addAll(sections.get(1));
        for (int i = 0; i < all.size(); i++) {
            result[8 + i] = all.get(i);
        }
        result[256] = all.size();
        return result;
    }

    int error() {
        try {
            assembled();
            return 0;
        } catch (SourceError e) {
            return e.code;
        }
    }

    int assemble() {
        state(error() == 0);
        int[] result = assembled();
        image = Arrays.copyOf(result, 256);
        return result[256] == 0 && lines.isEmpty() ? 0 : wordsOf();
    }

    private int wordsOf() {
        Way way = new Way();
        walk(way, 0, lines.size(), 0, null, 0);
        return way.sizes[0] + way.sizes[1];
    }

    int image(int address) {
        range(address, 0, 255);
        state(image != null);
        return image[address];
    }

    // ---- the machine

    private static int mend(State state) {
        int[] disk = state.disk;
        if (disk[0] == 0) {
            return 0;
        }
        int count = disk[0];
        int mended = 0;
        int check = disk[0] + disk[1] + disk[2] + disk[3];
        for (int i = 8; i < 8 + 8 * count && count <= 3; i++) {
            check += disk[i];
        }
        if (count <= 3 && check % 65536 == disk[4]) {
            for (int i = 0; i < count; i++) {
                System.arraycopy(disk, 8 + 8 * i, disk, 8 * disk[1 + i], 8);
                mended++;
            }
        }
        Arrays.fill(disk, 0, 8, 0);
        mended++;
        state.written += mended;
        return mended;
    }

    private static State turnedOn(int[] disk, int written, int[] image, List<int[]> keys, int[] mended) {
        State state = off(disk.clone());
        state.written = written;
        mended[0] = mend(state);
        state.state = KernelGym.RUNS;
        state.memory = image.clone();
        state.counter = 8;
        state.stack = 256;
        comeKeys(state, keys);
        return state;
    }

    private static void comeKeys(State state, List<int[]> keys) {
        for (int[] key : keys) {
            state.key |= key[0] == state.steps;
        }
    }

    int start() {
        state(now.state == KernelGym.OFF && image != null);
        int[] mended = new int[1];
        told = new ArrayList<>();
        history = new ArrayList<>();
        now = turnedOn(now.disk, now.written, image, told, mended);
        first = now.copy();
        return mended[0];
    }

    int crash() {
        on();
        int steps = now.steps;
        int written = now.written;
        now = off(now.disk);
        now.written = written;
        history = new ArrayList<>();
        return steps;
    }

    int format() {
        state(now.state == KernelGym.OFF);
        int files = files();
        now = off(formatted());
        return files;
    }

    private void on() {
        state(now.state != KernelGym.OFF);
    }

    int step(int steps) {
        range(steps, 1, 100);
        on();
        return go(steps, -1);
    }

    int runTo(int address, int steps) {
        range(address, 0, 255);
        range(steps, 1, 100);
        on();
        return go(steps, address);
    }

    private int go(int steps, int address) {
        for (int made = 0; made < steps; made++) {
            if (now.state != KernelGym.RUNS || now.steps == 1000) {
                return made;
            }
            history.add(now);
            now = next(now, told);
            if (history.size() > 200) {
                history.remove(0);
            }
            if (now.counter == address && now.writes.isEmpty()) {
                return made + 1;
            }
        }
        return steps;
    }

    int back(int steps) {
        range(steps, 1, 200);
        on();
        int taken = 0;
        while (taken < steps && !history.isEmpty()) {
            now = history.remove(history.size() - 1);
            taken++;
        }
        return taken;
    }

    int press(int key) {
        range(key, 0, 65535);
        state(now.state == KernelGym.RUNS && told.size() < 20);
        told.add(new int[] {now.steps, key});
        now.key = true;
        return told.size();
    }

    private static List<Integer> come(List<int[]> keys, int steps) {
        TreeMap<Integer, List<Integer>> bySteps = new TreeMap<>();
        for (int[] key : keys) {
            bySteps.computeIfAbsent(key[0], k -> new ArrayList<>()).add(key[1]);
        }
        List<Integer> come = new ArrayList<>();
        bySteps.headMap(steps, true).values().forEach(come::addAll);
        return come;
    }

    /** The state behind one more step; the state ahead of it is not changed. */
    private static State next(State ahead, List<int[]> keys) {
        State s = ahead.copy();
        s.changed = new HashSet<>();
        State fallen = doStep(s, keys);
        if (fallen != s) {
            State kept = ahead.copy();
            kept.changed = new HashSet<>();
            kept.state = KernelGym.FAULTED;
            kept.fault = fallen.fault;
            s = kept;
        }
        s.steps++;
        if (s.interval > 0) {
            s.time++;
            if (s.time == s.interval) {
                s.time = 0;
                s.timer = true;
            }
        }
        comeKeys(s, keys);
        return s;
    }

    private static State fall(int fault) {
        State fallen = new State();
        fallen.fault = fault;
        return fallen;
    }

    private static boolean push(State s, int word) {
        if (s.stack == 0) {
            return false;
        }
        s.stack--;
        s.memory[s.stack] = word;
        s.changed.add(s.stack);
        return true;
    }

    private static int pull(State s) {
        return s.stack > 255 ? -1 : s.memory[s.stack++];
    }

    private static State doStep(State s, List<int[]> keys) {
        if (!s.writes.isEmpty()) {
            int[] write = s.writes.remove(0);
            System.arraycopy(write, 1, s.disk, 8 * write[0], 8);
            s.written++;
            if (s.writes.isEmpty()) {
                s.register[3] = 0;
                s.counter += 2;
            }
            return s;
        }
        if (s.on && (s.timer || s.key)) {
            int vector = s.timer ? 0 : 1;
            if (s.timer) {
                s.timer = false;
            } else {
                s.key = false;
            }
            if (!push(s, s.counter) || !push(s, (s.zero ? 1 : 0) | (s.less ? 2 : 0))) {
                return fall(KernelGym.BAD_STACK);
            }
            s.on = false;
            s.counter = s.memory[vector];
            return s;
        }
        if (s.counter > 254) {
            return fall(KernelGym.BAD_ADDRESS);
        }
        int v = s.memory[s.counter];
        int x = s.memory[s.counter + 1];
        int d = v / 4 % 4;
        int y = d == v % 4 ? x : (s.register[v % 4] + x) % 65536;
        return operate(s, v / 16, d, y, keys);
    }

    private static State operate(State s, int operation, int d, int y, List<int[]> keys) {
        int old = s.counter;
        s.counter = old + 2;
        int[] r = s.register;
        switch (operation) {
            case 0 -> {
                s.state = KernelGym.HALTED;
                s.counter = old;
            }
            case 1 -> r[d] = y;
            case 2 -> {
                if (y > 255) {
                    return fall(KernelGym.BAD_ADDRESS);
                }
                r[d] = s.memory[y];
            }
            case 3 -> {
                if (y > 255) {
                    return fall(KernelGym.BAD_ADDRESS);
                }
                s.memory[y] = r[d];
                s.changed.add(y);
            }
            case 4 -> {
                s.less = r[d] + y > 65535;
                r[d] = (r[d] + y) % 65536;
            }
            case 5 -> {
                s.less = r[d] < y;
                r[d] = Math.floorMod(r[d] - y, 65536);
            }
            case 6 -> {
                long product = (long) r[d] * (long) y;
                s.less = product > 65535;
                r[d] = (int) (product % 65536);
            }
            case 7 -> r[d] = r[d] & y;
            case 8 -> r[d] = r[d] ^ y;
            case 9 -> r[d] = (int) (((long) r[d] << y % 16) % 65536);
            case 10 -> r[d] = r[d] >>> y % 16;
            case 11 -> {
                s.less = r[d] < y;
                s.zero = r[d] == y;
            }
            case 12 -> s.counter = y;
            case 13 -> s.counter = s.zero ? y : s.counter;
            case 14 -> s.counter = s.less ? y : s.counter;
            case 15 -> {
                if (!push(s, s.counter)) {
                    return fall(KernelGym.BAD_STACK);
                }
                s.counter = y;
            }
            case 16 -> {
                s.counter = pull(s);
                if (s.counter < 0) {
                    return fall(KernelGym.BAD_STACK);
                }
            }
            case 17 -> {
                if (!push(s, y)) {
                    return fall(KernelGym.BAD_STACK);
                }
            }
            case 18 -> {
                r[d] = pull(s);
                if (r[d] < 0) {
                    return fall(KernelGym.BAD_STACK);
                }
            }
            case 19 -> s.on = true;
            case 20 -> s.on = false;
            case 21 -> {
                int flags = pull(s);
                s.counter = pull(s);
                if (flags < 0 || s.counter < 0) {
                    return fall(KernelGym.BAD_STACK);
                }
                s.zero = flags % 2 == 1;
                s.less = flags / 2 % 2 == 1;
                s.on = true;
            }
            case 22 -> s.counter = s.timer || s.key ? s.counter : old;
            case 23 -> {
                s.interval = y;
                s.time = 0;
            }
            case 24 -> {
                List<Integer> come = come(keys, s.steps);
                r[d] = s.read < come.size() ? come.get(s.read++) : 65535;
            }
            case 25 -> {
                if (s.tape.size() == 60) {
                    return fall(KernelGym.TAPE_FULL);
                }
                s.tape.add(y);
            }
            case 26 -> {
                fileCall(s, y);
                s.counter = s.writes.isEmpty() ? s.counter : old;
            }
            default -> {
                return fall(KernelGym.BAD_OPERATION);
            }
        }
        if (operation >= 4 && operation <= 10) {
            s.zero = r[d] == 0;
            s.less = s.less && operation <= 6;
        }
        return s;
    }

    // ---- files

    private static FileOf[] filesOn(int[] disk) {
        FileOf[] files = new FileOf[6];
        for (int i = 0; i < 6; i++) {
            int at = 40 + 4 * i;
            if (disk[at] != 0) {
                files[i] = new FileOf();
                files[i].name = disk[at];
                for (int k = 2; k < 4; k++) {
                    if (disk[at + k] != 0) {
                        files[i].blocks.add(disk[at + k]);
                    }
                }
                for (int k = 0; k < disk[at + 1]; k++) {
                    files[i].words.add(disk[8 * files[i].blocks.get(k / 8) + k % 8]);
                }
            }
        }
        return files;
    }

    private static int find(FileOf[] files, int name) {
        for (int i = 0; i < 6; i++) {
            if (files[i] != null && files[i].name == name) {
                return i;
            }
        }
        return -1;
    }

    private static void fileCall(State s, int call) {
        int[] r = s.register;
        FileOf[] files = filesOn(s.disk);
        if (call > 6) {
            r[3] = 9;
            return;
        }
        int at = find(files, r[0]);
        boolean none = call == 0 ? at >= 0 || r[0] == 0 : at < 0 || call == 6 && r[1] == 0;
        if (none) {
            r[3] = 1;
            return;
        }
        if (call == 0 && Arrays.asList(files).indexOf(null) < 0 || call == 1 && files[at].words.size() == 16
                || (call == 2 || call == 3) && r[1] >= files[at].words.size()) {
            r[3] = 2;
            return;
        }
        r[3] = call <= 2 || call >= 5 ? r[3] : 0;
        int dataBlock = 0;
        int[] after = s.disk.clone();
        if (call == 3) {
            r[2] = files[at].words.get(r[1]);
            return;
        } else if (call == 4) {
            r[1] = files[at].words.size();
            return;
        } else if (call == 0) {
            FileOf made = new FileOf();
            made.name = r[0];
            files[Arrays.asList(files).indexOf(null)] = made;
        } else if (call == 1) {
            int size = files[at].words.size();
            if (size % 8 == 0) {
                int block = 8;
                while (isUsed(files, block)) {
                    block++;
                }
                files[at].blocks.add(block);
                Arrays.fill(after, 8 * block, 8 * block + 8, 0);
            }
            files[at].words.add(r[1]);
            dataBlock = files[at].blocks.get(size / 8);
        } else if (call == 2) {
            files[at].words.set(r[1], r[2]);
            dataBlock = files[at].blocks.get(r[1] / 8);
        } else if (call == 5) {
            files[at] = null;
        } else if (r[0] == r[1]) {
            r[3] = 0;
            return;
        } else {
            int other = find(files, r[1]);
            if (other >= 0) {
                files[other] = null;
            }
            files[at].name = r[1];
        }
        putOn(after, files);
        plan(s, after, dataBlock);
    }

    private static boolean isUsed(FileOf[] files, int block) {
        for (FileOf file : files) {
            if (file != null && file.blocks.contains(block)) {
                return true;
            }
        }
        return false;
    }

    private static void putOn(int[] disk, FileOf[] files) {
        Arrays.fill(disk, 32, 64, 0);
        disk[32] = 255;
        for (int i = 0; i < 6; i++) {
            FileOf file = files[i];
            if (file != null) {
                disk[40 + 4 * i] = file.name;
                disk[41 + 4 * i] = file.words.size();
                for (int k = 0; k < file.blocks.size(); k++) {
                    int block = file.blocks.get(k);
                    disk[42 + 4 * i + k] = block;
                    disk[32 + block / 16] |= 1 << block % 16;
                }
                for (int k = 0; k < file.words.size(); k++) {
                    disk[8 * file.blocks.get(k / 8) + k % 8] = file.words.get(k);
                }
            }
        }
    }

    private static void plan(State s, int[] after, int dataBlock) {
        List<Integer> changed = new ArrayList<>();
        for (int block = 4; block < 32; block++) {
            if (block == dataBlock
                    || !Arrays.equals(after, 8 * block, 8 * block + 8, s.disk, 8 * block, 8 * block + 8)) {
                changed.add(block);
            }
        }
        int[] head = new int[9];
        head[1] = changed.size();
        int check = changed.size();
        List<int[]> places = new ArrayList<>();
        for (int i = 0; i < changed.size(); i++) {
            int[] write = new int[9];
            System.arraycopy(after, 8 * changed.get(i), write, 1, 8);
            check += Arrays.stream(write).sum() + changed.get(i);
            write[0] = 1 + i;
            s.writes.add(write);
            int[] place = write.clone();
            place[0] = changed.get(i);
            places.add(place);
            head[2 + i] = changed.get(i);
        }
        head[5] = check % 65536;
        s.writes.add(head);
        s.writes.addAll(places);
        s.writes.add(new int[9]);
    }

    // ---- what can be asked

    int state() {
        return now.state;
    }

    int fault() {
        return now.fault;
    }

    int steps() {
        return now.steps;
    }

    int kept() {
        return history.size();
    }

    int counter() {
        return now.counter;
    }

    int stack() {
        return now.stack;
    }

    private static int flagsOf(State s) {
        return (s.zero ? 1 : 0) | (s.less ? 2 : 0) | (s.on ? 4 : 0) | (s.timer ? 8 : 0) | (s.key ? 16 : 0);
    }

    int flags() {
        return flagsOf(now);
    }

    int writesLeft() {
        return now.writes.size();
    }

    int register(int register) {
        range(register, 0, 3);
        return now.register[register];
    }

    int memory(int address) {
        range(address, 0, 255);
        return now.memory[address];
    }

    int changedAt(int address) {
        range(address, 0, 255);
        for (int i = history.size() - 1; i >= 0; i--) {
            State behind = i + 1 < history.size() ? history.get(i + 1) : now;
            if (behind.changed.contains(address)) {
                return history.get(i).steps;
            }
        }
        return -1;
    }

    int tape() {
        return now.tape.size();
    }

    int tapeAt(int index) {
        if (index < 0 || index >= now.tape.size()) {
            throw new IndexOutOfBoundsException();
        }
        return now.tape.get(index);
    }

    private static int sumOf(State s) {
        List<Integer> words = new ArrayList<>(List.of(s.state, s.fault, s.steps, s.counter, s.stack, flagsOf(s),
            s.interval, s.time));
        for (int word : s.register) {
            words.add(word);
        }
        words.add(s.writes.size());
        for (int word : s.memory) {
            words.add(word);
        }
        for (int word : s.disk) {
            words.add(word);
        }
        words.add(s.tape.size());
        words.addAll(s.tape);
        long sum = 7;
        for (int word : words) {
            sum = (31 * sum + word) % 1000003;
        }
        return (int) sum;
    }

    int sum() {
        return sumOf(now);
    }

    int sumAnew(int steps) {
        on();
        range(steps, 0, now.steps);
        State s = first.copy();
        comeKeys(s, told);
        for (int i = 0; i < steps; i++) {
            s = next(s, told);
        }
        return sumOf(s);
    }

    int written() {
        return now.written;
    }

    int disk(int block, int place) {
        range(block, 0, 31);
        range(place, 0, 7);
        return now.disk[8 * block + place];
    }

    int files() {
        int files = 0;
        for (int at = 40; at < 64; at += 4) {
            files += now.disk[at] == 0 ? 0 : 1;
        }
        return files;
    }

    private int entry(int name) {
        range(name, 1, 65535);
        for (int at = 40; at < 64; at += 4) {
            if (now.disk[at] == name) {
                return at;
            }
        }
        throw new NoSuchElementException();
    }

    int size(int name) {
        return now.disk[entry(name) + 1];
    }

    int wordOf(int name, int place) {
        int at = entry(name);
        if (place < 0 || place >= now.disk[at + 1]) {
            throw new IndexOutOfBoundsException();
        }
        return now.disk[8 * now.disk[at + 2 + place / 8] + place % 8];
    }

    int freeBlocks() {
        return 32 - Integer.bitCount(now.disk[32]) - Integer.bitCount(now.disk[33]);
    }

    boolean isWhole() {
        return wholeDisk(now.disk);
    }

    private static boolean wholeDisk(int[] disk) {
        Set<Integer> names = new HashSet<>();
        Set<Integer> blocks = new HashSet<>();
        int[] map = {255, 0};
        boolean whole = disk[0] == 0;
        for (int at = 40; at < 64; at += 4) {
            int size = disk[at + 1];
            if (disk[at] == 0) {
                whole &= size == 0 && disk[at + 2] == 0 && disk[at + 3] == 0;
                continue;
            }
            whole &= names.add(disk[at]) && size <= 16;
            for (int k = 0; k < 2; k++) {
                int block = disk[at + 2 + k];
                whole &= block != 0 == size > 8 * k;
                if (block != 0) {
                    whole &= block >= 8 && block < 32 && blocks.add(block);
                    map[block / 16 & 1] |= 1 << block % 16;
                }
            }
        }
        return whole && map[0] == disk[32] && map[1] == disk[33];
    }

    // ---- tests

    int testKey(int key) {
        range(key, 0, 65535);
        state(draftKeys.size() < 6);
        draftKeys.add(key);
        return draftKeys.size();
    }

    int testWord(int word) {
        range(word, 0, 65535);
        state(draftWords.size() < 6);
        draftWords.add(word);
        return draftWords.size();
    }

    int addTest(int steps, int blocks, int points, int crash) {
        range(steps, 1, 500);
        range(blocks, 0, 100);
        range(points, 1, 20);
        range(crash, 0, 500);
        state(tests.size() < 5);
        tests.add(new Object[] {new int[] {steps, blocks, points, crash}, draftKeys, draftWords});
        draftKeys = new ArrayList<>();
        draftWords = new ArrayList<>();
        return tests.size() - 1;
    }

    int tests() {
        return tests.size();
    }

    int submit() {
        state(image != null);
        List<Integer> results = new ArrayList<>();
        int passed = 0;
        for (Object[] test : tests) {
            int result = resultOf(test);
            passed += result == KernelGym.PASSED ? 1 : 0;
            results.add(result);
        }
        submissions.add(results);
        return passed;
    }

    private int resultOf(Object[] test) {
        int[] budgets = (int[]) test[0];
        List<int[]> keys = new ArrayList<>();
        for (Object key : (List<?>) test[1]) {
            keys.add(new int[] {0, (Integer) key});
        }
        State s = turnedOn(formatted(), 0, image, keys, new int[1]);
        int made = 0;
        while (s.state == KernelGym.RUNS && made < budgets[0]) {
            s = next(s, keys);
            made++;
            if (made == budgets[3] && s.state == KernelGym.RUNS) {
                keys.clear();
                s = turnedOn(s.disk, s.written, image, keys, new int[1]);
            }
        }
        return s.state == KernelGym.FAULTED ? KernelGym.FAILED_BY_FAULT
            : s.state == KernelGym.RUNS ? KernelGym.SLOW
            : s.written > budgets[1] ? KernelGym.GREEDY
            : !s.tape.equals(test[2]) ? KernelGym.WRONG
            : !wholeDisk(s.disk) ? KernelGym.UNSOUND : KernelGym.PASSED;
    }

    int result(int test) {
        if (test < 0 || test >= tests.size()) {
            throw new IndexOutOfBoundsException();
        }
        return submissions.isEmpty() ? -1 : resultIn(submissions.size() - 1, test);
    }

    private int resultIn(int submission, int test) {
        List<Integer> results = submissions.get(submission);
        return test < results.size() ? results.get(test) : -1;
    }

    int mark() {
        int mark = 0;
        int last = submissions.size() - 1;
        for (int test = 0; test < tests.size() && last >= 0; test++) {
            int points = ((int[]) tests.get(test)[0])[2];
            boolean earlier = false;
            for (int i = 0; i < last; i++) {
                earlier |= resultIn(i, test) == KernelGym.PASSED;
            }
            mark += resultIn(last, test) == KernelGym.PASSED ? points : earlier ? -((points + 1) / 2) : 0;
        }
        return Math.max(0, mark);
    }
}
