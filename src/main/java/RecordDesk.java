import java.util.Arrays;
import java.util.NoSuchElementException;

/** A program of threads that is recorded while it runs, and replayed by its record alone. */
public final class RecordDesk {
    public static final int NONE = -1;

    private static final int TAPE_MOST = 700;
    private static final int THREADS_MOST = 4;
    private static final int LINES_MOST = 16;
    private static final int ROWS_MOST = THREADS_MOST * LINES_MOST;
    private static final int OPERANDS_MOST = 3;
    private static final int CELLS = 16;
    private static final int REGISTERS = 4;
    private static final int LOCKS = 4;
    private static final int SOURCES = 3;
    private static final int GIVEN_MOST = 30;
    private static final int TIME_MOST = 400;
    private static final int STEPS_MOST = 50;
    private static final int ACTS_MOST = 40;
    private static final int SNAPSHOT_GAP = 16;
    private static final int SNAPS_MOST = 8;
    private static final int QUANTUM_MOST = 9;
    private static final int SEEDS_TRIED = 7;

    // The words in quotes, each with a blank behind it; their order gives the numbers below.
    private static final String WORDS =
        "quantum seed point snaps cell thread set load store add sub mul read lock unlock jump zero less skip ";
    private static final int QUANTUM = 0;
    private static final int SEED = 1;
    private static final int POINT = 2;
    private static final int SNAPS = 3;
    private static final int CELL = 4;
    private static final int THREAD = 5;
    private static final int SET = 6;
    private static final int LOAD = 7;
    private static final int STORE = 8;
    private static final int ADD = 9;
    private static final int SUB = 10;
    private static final int MUL = 11;
    private static final int READ = 12;
    private static final int LOCK = 13;
    private static final int UNLOCK = 14;
    private static final int JUMP = 15;
    private static final int ZERO = 16;
    private static final int LESS = 17;

    private static final int FAULT_MISPLACED = 1;
    private static final int FAULT_TOO_MUCH = 2;
    private static final int FAULT_NO_SUCH_NAME = 3;
    private static final int FAULT_NAME_TAKEN = 4;
    private static final int FAULT_TOLD_AGAIN = 5;

    // The ways in which a RECORD is altered; 2, 3 and 4 are INPUTS of SOURCES 0, 1 and 2.
    private static final int ALTER_NOTHING = -1;
    private static final int ALTER_SWITCH = 0;
    private static final int ALTER_NO_SWITCH = 1;
    private static final int ALTER_INPUT = 2;
    private static final int ALTER_CELL = 5;

    private final Reader reader = new Reader();
    private final Program program = new Program();
    private final Course course = new Course();
    private final Course imaged = new Course();
    private final Replay view = new Replay();
    private final Replay altered = new Replay();
    private final Runner tried = new Runner();
    private final int[] triedCells = new int[SEEDS_TRIED * CELLS];
    private final Snapshots snapshots = new Snapshots();
    private final Holders holders = new Holders();
    private final Races found = new Races();
    private final Hot heat = new Hot();
    private int faultPlace = NONE;
    private boolean hasImage = false;

    public RecordDesk() {
        program.clear();
        course.begin(program);
        view.begin(program);
    }

    public int feed(int a, int b, int c, int d, int e) {
        if (reader.size + 20 > TAPE_MOST) {
            return NONE;
        }
        reader.put(a);
        reader.put(b);
        reader.put(c);
        reader.put(d);
        reader.put(e);
        return reader.size;
    }

    public int program(int n) throws IllegalArgumentException {
        if (n < 0 || n > reader.size) {
            throw new IllegalArgumentException("the tape has not so many bytes");
        }
        int fault = reader.readText(n);
        reader.size = 0;
        if (fault != 0) {
            faultPlace = reader.place;
            course.refusedTexts++;
            return fault;
        }
        faultPlace = NONE;
        program.copy(reader.fresh);
        course.begin(program);
        hasImage = false;
        forgetViews();
        return 0;
    }

    public int fault() {
        return faultPlace;
    }

    public int count(int what) throws NoSuchElementException {
        Machine machine = course.runner.machine;
        switch (what) {
            case 0: return program.threads;
            case 1: return course.time;
            case 2: return machine.current;
            case 3: return course.runner.left;
            case 4: return course.switches;
            case 5: return sum(machine.reads);
            case 6: return course.time / program.point();
            case 7: return machine.countAble(program, course.givenCounts);
            case 8: return machine.countEnded(program);
            case 9: return snapshotsNow().size;
            case 10: return snapshotsNow().greatestCost(course.time);
            case 11: return course.cursor;
            case 12: return machine.ring(program);
            case 13: return sum(course.givenCounts) - sum(machine.reads);
            case 14: return course.acts.size;
            case 15: return reader.size;
            case 16: return course.refusedTexts;
            case 17: return course.refusedActs;
            default: throw new NoSuchElementException("no such count");
        }
    }

    public int set(int what) throws NoSuchElementException {
        if (what < QUANTUM || what > SNAPS) {
            throw new NoSuchElementException("no such setting");
        }
        return program.settings[what];
    }

    public int steps(int many) {
        boolean isRefused = many < 1 || many > STEPS_MOST || course.time + many > TIME_MOST
            || course.runner.machine.countAble(program, course.givenCounts) == 0;
        if (isRefused) {
            course.refusedActs++;
            return NONE;
        }
        int before = course.time;
        course.acts.keep(NONE, before, course.runner.left, course.runner.drawn);
        for (int i = 0; i < many; i++) {
            if (!course.putDownStep(program)) {
                break;
            }
        }
        forgetViews();
        return course.time - before;
    }

    public int give(int source, int number) {
        if (!isSource(source) || course.givenCounts[source] >= GIVEN_MOST) {
            course.refusedActs++;
            return NONE;
        }
        course.acts.keep(source, course.time, course.runner.left, course.runner.drawn);
        course.given[source * GIVEN_MOST + course.givenCounts[source]] = number;
        course.givenCounts[source]++;
        return course.givenCounts[source];
    }

    public int undo() {
        Acts acts = course.acts;
        if (acts.size == 0) {
            return NONE;
        }
        acts.size--;
        int source = acts.sources[acts.size];
        if (isSource(source)) {
            course.givenCounts[source]--;
        } else {
            takeStepsBack(acts.times[acts.size]);
            course.runner.left = acts.lefts[acts.size];
            course.runner.drawn = acts.drawns[acts.size];
        }
        course.cursor = Math.min(course.cursor, course.time);
        forgetViews();
        return acts.size;
    }

    public int switched(int i, int what) throws NoSuchElementException {
        if (i < 0 || i >= course.switches) {
            throw new NoSuchElementException("no such switch");
        }
        switch (what) {
            case 0: return course.switchBranches[i];
            case 1: return course.switchPlaces[i];
            case 2: return course.switchThreads[i];
            default: throw new NoSuchElementException("a switch has no such part");
        }
    }

    public int input(int source, int i) throws NoSuchElementException {
        if (!hasInput(source, i)) {
            throw new NoSuchElementException("no such input in the record");
        }
        return course.given[source * GIVEN_MOST + i];
    }

    public int digest(int i) throws NoSuchElementException {
        if (i < 0 || i >= course.time / program.point()) {
            throw new NoSuchElementException("no such digest");
        }
        return course.digests[i];
    }

    public int snapshot(int i) throws NoSuchElementException {
        Snapshots now = snapshotsNow();
        if (i < 0 || i >= now.size) {
            throw new NoSuchElementException("no such snapshot");
        }
        return now.steps[i];
    }

    public int seek(int step) throws NoSuchElementException {
        if (step < 0 || step > course.time) {
            throw new NoSuchElementException("no such step");
        }
        course.cursor = step;
        return snapshotsNow().cost(step);
    }

    public int cell(int cell) throws NoSuchElementException {
        checkCell(cell);
        return machineAt(course.cursor).cells[cell];
    }

    public int thread(int thread, int what) throws NoSuchElementException {
        if (!isThread(thread)) {
            throw new NoSuchElementException("no such thread");
        }
        Machine machine = machineAt(course.cursor);
        switch (what) {
            case 0:
            case 1:
            case 2:
            case 3: return machine.registers[thread * REGISTERS + what];
            case 4: return machine.places[thread];
            case 5: return machine.branches[thread];
            case 6: return machine.hasEnded(program, thread) ? 1 : 0;
            case 7: return machine.current == thread ? 1 : 0;
            default: throw new NoSuchElementException("a thread has no such part");
        }
    }

    public int lock(int lock) throws NoSuchElementException {
        if (lock < 0 || lock >= LOCKS) {
            throw new NoSuchElementException("no such lock");
        }
        return machineAt(course.cursor).owners[lock];
    }

    public int mark() {
        return machineAt(course.cursor).digestOf(program);
    }

    public int back(int thread, int instruction) throws NoSuchElementException {
        checkInstruction(thread, instruction);
        int row = thread * LINES_MOST + instruction;
        for (int step = course.cursor; step >= 1; step--) {
            if (course.did[step] == row) {
                course.cursor = step - 1;
                return step;
            }
        }
        return NONE;
    }

    public int on(int thread, int instruction) throws NoSuchElementException {
        checkInstruction(thread, instruction);
        int row = thread * LINES_MOST + instruction;
        for (int step = course.cursor + 1; step <= course.time; step++) {
            if (course.did[step] == row) {
                course.cursor = step;
                return step;
            }
        }
        return NONE;
    }

    public int last(int cell, int what) throws NoSuchElementException {
        checkCell(cell);
        if (what < 0 || what > 2) {
            throw new NoSuchElementException("a last store has no such part");
        }
        int step = lastStore(cell);
        if (step == NONE || what == 0) {
            return step;
        }
        return what == 1 ? course.did[step] / LINES_MOST : course.did[step] % LINES_MOST;
    }

    public int held(int cell) throws NoSuchElementException {
        checkCell(cell);
        int step = lastStore(cell);
        if (step == NONE) {
            throw new NoSuchElementException("nothing was stored into the cell");
        }
        return machineAt(step - 1).cells[cell];
    }

    public int firstRead(int cell) throws NoSuchElementException {
        checkCell(cell);
        for (int step = course.cursor + 1; step <= course.time; step++) {
            int row = course.did[step];
            if (program.cellTouched(row) == cell) {
                return program.ops[row] == LOAD ? step : NONE;
            }
        }
        return NONE;
    }

    public int races(int what) throws NoSuchElementException {
        if (what < 0 || what > 2) {
            throw new NoSuchElementException("races have no such count");
        }
        found.find(program, course, holders);
        if (what == 0) {
            return found.total;
        }
        return what == 1 ? Integer.bitCount(found.cellBits) : found.countCouples();
    }

    public int race(int i, int what) throws NoSuchElementException {
        found.find(program, course, holders);
        if (i < 0 || i >= found.total || what < 0 || what > 2) {
            throw new NoSuchElementException("no such race");
        }
        int later = found.laterStep(i, course.time);
        if (later == NONE || what == 1) {
            return later;
        }
        return what == 0 ? found.earlierStep(i, later, program, course) : found.touched[later];
    }

    public int guards(int cell) throws NoSuchElementException {
        checkCell(cell);
        int bits = (1 << LOCKS) - 1;
        holders.clear();
        for (int step = 1; step <= course.time; step++) {
            int row = course.did[step];
            if (program.cellTouched(row) == cell) {
                bits &= holders.heldBy(row / LINES_MOST);
            }
            holders.see(program, row);
        }
        return bits;
    }

    public int hot(int i, int what) throws NoSuchElementException {
        heat.find(course);
        if (i == NONE) {
            return heat.size;
        }
        if (i < 0 || i >= heat.size || what < 0 || what > 2) {
            throw new NoSuchElementException("no such hot instruction");
        }
        int row = heat.rows[i];
        if (what == 2) {
            return heat.times[row];
        }
        return what == 0 ? row / LINES_MOST : row % LINES_MOST;
    }

    public int diverged(int how, int i, int number, int what) throws NoSuchElementException {
        if (what < 0 || what > 2 || !canAlter(how, i, number)) {
            throw new NoSuchElementException("the record can't be altered so");
        }
        altered.begin(program);
        altered.alter(how, i, number);
        if (what == 0) {
            return firstOtherStep();
        }
        if (what == 1) {
            return firstOtherDigest();
        }
        altered.runTo(course.time, program, course);
        return altered.done < course.time ? altered.done : NONE;
    }

    public int matters(int source) throws NoSuchElementException {
        if (!isSource(source)) {
            throw new NoSuchElementException("no such source");
        }
        Machine machine = course.runner.machine;
        int many = 0;
        for (int i = 0; i < machine.reads[source]; i++) {
            altered.begin(program);
            altered.alter(ALTER_INPUT + source, i, course.given[source * GIVEN_MOST + i] + 1);
            altered.runTo(course.time, program, course);
            if (altered.done < course.time || !sameNumbers(altered.machine.cells, machine.cells, CELLS)) {
                many++;
            }
        }
        return many;
    }

    public int outcomes(int n, int what) throws NoSuchElementException, IllegalArgumentException {
        checkTrial(n, what);
        for (int seed = 0; seed < SEEDS_TRIED; seed++) {
            runTrial(n, seed, program.settings[QUANTUM]);
            System.arraycopy(tried.machine.cells, 0, triedCells, seed * CELLS, CELLS);
        }
        int many = 1;
        int least = NONE;
        for (int seed = 1; seed < SEEDS_TRIED; seed++) {
            int like = firstLikeOutcome(seed);
            if (like == seed) {
                many++;
            }
            if (like != 0 && least == NONE) {
                least = seed;
            }
        }
        return what == 0 ? many : least;
    }

    public int toSpare(int n, int what) throws NoSuchElementException, IllegalArgumentException {
        checkTrial(n, what);
        int best = 1;
        int fewest = runTrial(n, program.settings[SEED], 1);
        for (int quantum = 2; quantum <= QUANTUM_MOST; quantum++) {
            int switches = runTrial(n, program.settings[SEED], quantum);
            if (switches < fewest) {
                fewest = switches;
                best = quantum;
            }
        }
        return what == 0 ? best : fewest;
    }

    public void image() {
        imaged.copy(course);
        hasImage = true;
    }

    public boolean restore() {
        if (!hasImage) {
            return false;
        }
        course.copy(imaged);
        forgetViews();
        return true;
    }

    private static int sum(int[] numbers) {
        int sum = 0;
        for (int number : numbers) {
            sum += number;
        }
        return sum;
    }

    private static boolean sameNumbers(int[] some, int[] others, int many) {
        int end = Math.min(many, Math.min(some.length, others.length));
        for (int i = 0; i < end; i++) {
            if (some[i] != others[i]) {
                return false;
            }
        }
        return true;
    }

    private static boolean isSource(int source) {
        return source >= 0 && source < SOURCES;
    }

    private boolean isThread(int thread) {
        return thread >= 0 && thread < program.threads;
    }

    private boolean hasInput(int source, int i) {
        return isSource(source) && i >= 0 && i < course.runner.machine.reads[source];
    }

    private void checkCell(int cell) {
        if (cell < 0 || cell >= CELLS) {
            throw new NoSuchElementException("no such cell");
        }
    }

    private void checkInstruction(int thread, int instruction) {
        if (!isThread(thread) || instruction < 0 || instruction >= program.lengths[thread]) {
            throw new NoSuchElementException("no such instruction");
        }
    }

    private void checkTrial(int n, int what) {
        if (what < 0 || what > 1) {
            throw new NoSuchElementException("a trial has no such answer");
        }
        if (n < 0 || n > TIME_MOST) {
            throw new IllegalArgumentException("a trial can't have so many steps");
        }
    }

    /** What was found out about the steps up to TIME may be wrong once these are others. */
    private void forgetViews() {
        view.begin(program);
        found.isFresh = false;
    }

    private Snapshots snapshotsNow() {
        snapshots.make(course.time, program.settings[SNAPS]);
        return snapshots;
    }

    private Machine machineAt(int step) {
        if (view.done > step) {
            view.begin(program);
        }
        view.runTo(step, program, course);
        return view.machine;
    }

    /** The replay brings back all but LEFT and what is drawn from, which no RECORD has. */
    private void takeStepsBack(int time) {
        view.begin(program);
        view.runTo(time, program, course);
        course.runner.machine.copy(view.machine);
        course.switches = view.taken;
        course.time = time;
    }

    private int lastStore(int cell) {
        for (int step = course.cursor; step >= 1; step--) {
            int row = course.did[step];
            if (program.ops[row] == STORE && program.cellTouched(row) == cell) {
                return step;
            }
        }
        return NONE;
    }

    private boolean canAlter(int how, int i, int number) {
        if (how == ALTER_SWITCH) {
            return i >= 0 && i < course.switches && isThread(number);
        }
        if (how == ALTER_NO_SWITCH) {
            return i >= 0 && i < course.switches;
        }
        if (how == ALTER_CELL) {
            return i >= 0 && i < CELLS;
        }
        return hasInput(how - ALTER_INPUT, i);
    }

    private int firstOtherStep() {
        view.begin(program);
        if (!view.machine.isLike(altered.machine, program.threads)) {
            return 0;
        }
        for (int step = 1; step <= course.time; step++) {
            view.advance(program, course);
            if (!altered.advance(program, course)
                || !view.machine.isLike(altered.machine, program.threads)) {
                return step;
            }
        }
        return NONE;
    }

    /** Two unlike states may have one digest, so the digests themselves are looked at. */
    private int firstOtherDigest() {
        int many = course.time / program.point();
        for (int i = 0; i < many; i++) {
            altered.runTo((i + 1) * program.point(), program, course);
            if (altered.isStuck) {
                return NONE;
            }
            if (altered.machine.digestOf(program) != course.digests[i]) {
                return i;
            }
        }
        return NONE;
    }

    /** Runs anew with all that was given there at once; answers how many switches there were. */
    private int runTrial(int n, int seed, int quantum) {
        tried.begin(program, seed);
        int switches = 0;
        for (int i = 0; i < n; i++) {
            if (!tried.advance(program, course, quantum)) {
                break;
            }
            if (tried.hasTurned) {
                switches++;
            }
        }
        return switches;
    }

    private int firstLikeOutcome(int seed) {
        for (int other = 0; other < seed; other++) {
            boolean isLike = true;
            for (int i = 0; i < CELLS; i++) {
                isLike = isLike && triedCells[other * CELLS + i] == triedCells[seed * CELLS + i];
            }
            if (isLike) {
                return other;
            }
        }
        return seed;
    }

    /** What a TEXT tells. An INSTRUCTION's row is its THREAD times 16 and its place there. */
    private static final class Program {
        final int[] ops = new int[ROWS_MOST];
        final int[] operands = new int[ROWS_MOST * OPERANDS_MOST];
        final int[] lengths = new int[THREADS_MOST];
        final int[] cells = new int[CELLS];
        final int[] settings = new int[SNAPS + 1];
        int threads;

        void clear() {
            Arrays.fill(ops, NONE);
            Arrays.fill(operands, 0);
            Arrays.fill(lengths, 0);
            Arrays.fill(cells, 0);
            threads = 0;
            settings[QUANTUM] = 3;
            settings[SEED] = 1;
            settings[POINT] = 10;
            settings[SNAPS] = 4;
        }

        void copy(Program from) {
            System.arraycopy(from.ops, 0, ops, 0, ops.length);
            System.arraycopy(from.operands, 0, operands, 0, operands.length);
            System.arraycopy(from.lengths, 0, lengths, 0, lengths.length);
            System.arraycopy(from.cells, 0, cells, 0, cells.length);
            System.arraycopy(from.settings, 0, settings, 0, settings.length);
            threads = from.threads;
        }

        /** POINT divides, so it is never below 1 here. */
        int point() {
            return Math.max(1, settings[POINT]);
        }

        int operand(int row, int i) {
            return operands[row * OPERANDS_MOST + i];
        }

        int cellTouched(int row) {
            if (ops[row] == LOAD) {
                return operand(row, 1);
            }
            return ops[row] == STORE ? operand(row, 0) : NONE;
        }
    }

    /** The tape, and the reading of a TEXT: TOKEN by TOKEN, each by what the state lets stand. */
    private static final class Reader {
        static final int IS_END = 0;
        static final int IS_NONE = 1;
        static final int IS_WORD = 2;
        static final int IS_NUMBER = 3;

        static final int AT_CLAUSE = 0;
        static final int AT_OPERAND = 1;
        static final int AT_LINE = 2;
        static final int AT_COLON = 3;
        static final int AT_INSTRUCTION = 4;
        static final int AT_LINE_END = 5;

        static final int DIGITS_MOST = 4;
        static final int LETTERS_MOST = 8;

        final byte[] tape = new byte[TAPE_MOST];
        int size = 0;
        final Program fresh = new Program();
        int place = NONE;

        // The TOKEN: from at to behind it; kind is one of the above, or the sign itself.
        private int at;
        private int behind;
        private int kind;
        private int value;
        private int word;
        private long name;

        private int state;
        // What must still stand, a letter each: see fits(); spot is the one that is next.
        private String shape = "";
        private int spot;
        private boolean hasMinus;
        private int row;
        private int subject;
        // Bits: settings that were told, and cells that were told from bit 8 on.
        private int told;
        // A name's letters, five bits each; 0 without.
        private final long[] labels = new long[ROWS_MOST];
        private final long[] wanted = new long[ROWS_MOST];
        private final int[] wantedAt = new int[ROWS_MOST];

        void put(int number) {
            for (int shift = 24; shift >= 0 && size < TAPE_MOST; shift -= 8) {
                tape[size] = (byte) (number >> shift);
                size++;
            }
        }

        /** The FAULT (its place is put down), or 0: fresh is the PROGRAM then. */
        int readText(int length) {
            clear();
            for (int i = 0; i <= length; i++) {
                findToken(length);
                if (kind == IS_END) {
                    break;
                }
                int fault = take();
                if (fault != 0) {
                    place = at;
                    return fault;
                }
            }
            if (state != AT_CLAUSE) {
                place = length;
                return FAULT_MISPLACED;
            }
            return resolveNames();
        }

        private void clear() {
            fresh.clear();
            Arrays.fill(labels, 0);
            Arrays.fill(wanted, 0);
            place = NONE;
            behind = 0;
            told = 0;
            state = AT_CLAUSE;
        }

        private void findToken(int length) {
            at = behind;
            while (at < length && (tape[at] == ' ' || tape[at] == '\n')) {
                at++;
            }
            behind = at + 1;
            if (at >= length) {
                kind = IS_END;
                behind = at;
                return;
            }
            int sign = tape[at];
            if (isLetter(sign)) {
                findWord(length);
            } else if (isDigit(sign)) {
                findNumber(length);
            } else {
                kind = sign == ';' || sign == ',' || sign == ':' || sign == '-' ? sign : IS_NONE;
            }
        }

        private void findWord(int length) {
            kind = IS_WORD;
            name = 0;
            behind = at;
            while (behind < length && isLetter(tape[behind])) {
                // A name that is too long loses letters here; isTooLong() tells it by its length.
                name = name << 5 | (tape[behind] - 'a' + 1);
                behind++;
            }
            word = wordNumber();
        }

        private void findNumber(int length) {
            kind = IS_NUMBER;
            value = 0;
            behind = at;
            while (behind < length && isDigit(tape[behind])) {
                value = behind - at < DIGITS_MOST ? value * 10 + tape[behind] - '0' : NONE;
                behind++;
            }
        }

        private static boolean isLetter(int sign) {
            return sign >= 'a' && sign <= 'z';
        }

        private static boolean isDigit(int sign) {
            return sign >= '0' && sign <= '9';
        }

        /** Which of the words in quotes the TOKEN is; NONE: it is another one. */
        private int wordNumber() {
            int number = 0;
            int from = 0;
            for (int i = 0; i < WORDS.length(); i++) {
                if (WORDS.charAt(i) == ' ') {
                    if (i - from == behind - at && isSpelled(from)) {
                        return number;
                    }
                    number++;
                    from = i + 1;
                }
            }
            return NONE;
        }

        private boolean isSpelled(int from) {
            for (int i = at; i < behind; i++) {
                if (tape[i] != WORDS.charAt(from + i - at)) {
                    return false;
                }
            }
            return true;
        }

        private boolean isTooLong() {
            return behind - at > LETTERS_MOST;
        }

        private int take() {
            switch (state) {
                case AT_CLAUSE: return takeClause();
                case AT_OPERAND: return takeOperand();
                case AT_LINE: return takeLine();
                case AT_COLON: return takeColon();
                case AT_INSTRUCTION: return takeInstruction();
                default: return takeLineEnd();
            }
        }

        private int takeClause() {
            if (kind != IS_WORD || word < QUANTUM || word > THREAD) {
                return FAULT_MISPLACED;
            }
            if (word == THREAD) {
                return takeThread();
            }
            if (word == CELL) {
                expect("Cw;");
                return 0;
            }
            if ((told & 1 << word) != 0) {
                return FAULT_TOLD_AGAIN;
            }
            told |= 1 << word;
            subject = word;
            expect("n;");
            return 0;
        }

        private int takeThread() {
            if (fresh.threads >= THREADS_MOST) {
                return FAULT_TOO_MUCH;
            }
            fresh.threads++;
            state = AT_LINE;
            return 0;
        }

        private int takeLine() {
            boolean isInstruction = word >= SET;
            if (kind != IS_WORD || word != NONE && !isInstruction) {
                return FAULT_MISPLACED;
            }
            int thread = fresh.threads - 1;
            if (isTooLong() || thread < 0 || fresh.lengths[thread] >= LINES_MOST) {
                return FAULT_TOO_MUCH;
            }
            row = thread * LINES_MOST + fresh.lengths[thread];
            fresh.lengths[thread]++;
            if (isInstruction) {
                return takeInstruction();
            }
            if (placeOfName(thread, name) != NONE) {
                return FAULT_NAME_TAKEN;
            }
            labels[row] = name;
            state = AT_COLON;
            return 0;
        }

        private int takeColon() {
            if (kind != ':') {
                return FAULT_MISPLACED;
            }
            state = AT_INSTRUCTION;
            return 0;
        }

        private int takeInstruction() {
            if (kind != IS_WORD || word < SET) {
                return FAULT_MISPLACED;
            }
            fresh.ops[row] = word;
            expect(shapeOf(word));
            return 0;
        }

        private int takeLineEnd() {
            if (kind != ',' && kind != ';') {
                return FAULT_MISPLACED;
            }
            state = kind == ',' ? AT_LINE : AT_CLAUSE;
            return 0;
        }

        private static String shapeOf(int op) {
            switch (op) {
                case SET: return "rv";
                case LOAD: return "rc";
                case STORE: return "cr";
                case ADD:
                case SUB:
                case MUL: return "rr";
                case READ: return "rs";
                case LOCK:
                case UNLOCK: return "l";
                case JUMP: return "N";
                case ZERO: return "rN";
                case LESS: return "rrN";
                default: return "";
            }
        }

        private void expect(String what) {
            shape = what;
            spot = 0;
            hasMinus = false;
            state = what.isEmpty() ? AT_LINE_END : AT_OPERAND;
        }

        private int takeOperand() {
            char due = spot < shape.length() ? shape.charAt(spot) : ';';
            if (due == ';') {
                state = AT_CLAUSE;
                return kind == ';' ? 0 : FAULT_MISPLACED;
            }
            if (due == 'N') {
                return takeName();
            }
            if (kind == '-' && !hasMinus && (due == 'v' || due == 'w')) {
                hasMinus = true;
                return 0;
            }
            if (kind != IS_NUMBER) {
                return FAULT_MISPLACED;
            }
            if (value == NONE || !fits(due)) {
                return FAULT_TOO_MUCH;
            }
            return takeNumber(due);
        }

        private int takeName() {
            if (kind != IS_WORD || word != NONE) {
                return FAULT_MISPLACED;
            }
            if (isTooLong()) {
                return FAULT_TOO_MUCH;
            }
            wanted[row] = name;
            wantedAt[row] = at;
            goOn();
            return 0;
        }

        private boolean fits(char due) {
            switch (due) {
                case 'r': return value < REGISTERS;
                case 'c':
                case 'C': return value < CELLS;
                case 's': return value < SOURCES;
                case 'l': return value < LOCKS;
                case 'n': return fitsSetting();
                default: return true;
            }
        }

        private boolean fitsSetting() {
            switch (subject) {
                case QUANTUM: return value >= 1 && value <= QUANTUM_MOST;
                case POINT: return value >= 1 && value <= 50;
                case SNAPS: return value >= 2 && value <= SNAPS_MOST;
                default: return true;
            }
        }

        private int takeNumber(char due) {
            int number = hasMinus ? -value : value;
            if (due == 'C') {
                if ((told & 1 << 8 + value) != 0) {
                    return FAULT_TOLD_AGAIN;
                }
                told |= 1 << 8 + value;
                subject = value;
            } else if (due == 'w') {
                fresh.cells[subject] = number;
            } else if (due == 'n') {
                fresh.settings[subject] = number;
            } else {
                fresh.operands[row * OPERANDS_MOST + spot] = number;
            }
            goOn();
            return 0;
        }

        private void goOn() {
            spot++;
            if (spot >= shape.length()) {
                state = AT_LINE_END;
            }
        }

        private int placeOfName(int thread, long sought) {
            for (int i = 0; i < fresh.lengths[thread]; i++) {
                if (labels[thread * LINES_MOST + i] == sought) {
                    return i;
                }
            }
            return NONE;
        }

        /** Rows go along the text, so the first NAME that is missing is the first along it. */
        private int resolveNames() {
            for (int i = 0; i < ROWS_MOST; i++) {
                if (wanted[i] != 0) {
                    int found = placeOfName(i / LINES_MOST, wanted[i]);
                    if (found == NONE) {
                        place = wantedAt[i];
                        return FAULT_NO_SUCH_NAME;
                    }
                    int operand = shapeOf(fresh.ops[i]).length() - 1;
                    fresh.operands[i * OPERANDS_MOST + operand] = found;
                }
            }
            return 0;
        }
    }

    /** What INSTRUCTIONS change: all the numbers of a DIGEST, and how many INPUTS are read. */
    private static final class Machine {
        final int[] cells = new int[CELLS];
        final int[] registers = new int[THREADS_MOST * REGISTERS];
        final int[] places = new int[THREADS_MOST];
        final int[] branches = new int[THREADS_MOST];
        final int[] owners = new int[LOCKS];
        final int[] reads = new int[SOURCES];
        int current = NONE;

        void begin(Program program) {
            System.arraycopy(program.cells, 0, cells, 0, CELLS);
            Arrays.fill(registers, 0);
            Arrays.fill(places, 0);
            Arrays.fill(branches, 0);
            Arrays.fill(owners, NONE);
            Arrays.fill(reads, 0);
            current = NONE;
        }

        void copy(Machine from) {
            System.arraycopy(from.cells, 0, cells, 0, cells.length);
            System.arraycopy(from.registers, 0, registers, 0, registers.length);
            System.arraycopy(from.places, 0, places, 0, places.length);
            System.arraycopy(from.branches, 0, branches, 0, branches.length);
            System.arraycopy(from.owners, 0, owners, 0, owners.length);
            System.arraycopy(from.reads, 0, reads, 0, reads.length);
            current = from.current;
        }

        boolean hasEnded(Program program, int thread) {
            return places[thread] >= program.lengths[thread];
        }

        /** The row of the INSTRUCTION that is next; NONE: there is none. */
        int nextRow(Program program, int thread) {
            if (thread < 0 || thread >= program.threads || hasEnded(program, thread)) {
                return NONE;
            }
            return thread * LINES_MOST + places[thread];
        }

        /** Limits: of each SOURCE, how many INPUTS there are to read. */
        boolean canGo(Program program, int thread, int[] limits) {
            int row = nextRow(program, thread);
            if (row == NONE) {
                return false;
            }
            if (program.ops[row] == LOCK) {
                return owners[program.operand(row, 0)] == NONE;
            }
            if (program.ops[row] == READ) {
                int source = program.operand(row, 1);
                return reads[source] < limits[source];
            }
            return true;
        }

        int countAble(Program program, int[] limits) {
            int many = 0;
            for (int thread = 0; thread < program.threads; thread++) {
                if (canGo(program, thread, limits)) {
                    many++;
                }
            }
            return many;
        }

        int countEnded(Program program) {
            int many = 0;
            for (int thread = 0; thread < program.threads; thread++) {
                if (hasEnded(program, thread)) {
                    many++;
                }
            }
            return many;
        }

        /** Who comes back to itself in at most so many waits as there are threads is in the ring. */
        int ring(Program program) {
            int bits = 0;
            for (int thread = 0; thread < program.threads; thread++) {
                int other = thread;
                for (int i = 0; i < program.threads && other != NONE; i++) {
                    other = waitsFor(program, other);
                    if (other == thread) {
                        bits |= 1 << thread;
                    }
                }
            }
            return bits;
        }

        private int waitsFor(Program program, int thread) {
            int row = nextRow(program, thread);
            if (row == NONE || program.ops[row] != LOCK) {
                return NONE;
            }
            return owners[program.operand(row, 0)];
        }

        /** The SOURCE that CURRENT's next INSTRUCTION reads; NONE: it reads none. */
        int sourceWanted(Program program) {
            int row = nextRow(program, current);
            return row != NONE && program.ops[row] == READ ? program.operand(row, 1) : NONE;
        }

        /** CURRENT does its INSTRUCTION; input is what a 'read' reads. */
        void obey(Program program, int input) {
            int row = nextRow(program, current);
            if (row == NONE) {
                return;
            }
            int op = program.ops[row];
            if (op == JUMP || op == ZERO || op == LESS) {
                branch(program, row);
            } else {
                work(program, row, input);
                places[current]++;
            }
        }

        private void branch(Program program, int row) {
            int base = current * REGISTERS;
            int first = program.operand(row, 0);
            int second = program.operand(row, 1);
            int target = places[current] + 1;
            switch (program.ops[row]) {
                case JUMP:
                    target = first;
                    break;
                case ZERO:
                    target = registers[base + first] == 0 ? second : target;
                    break;
                default:
                    boolean isLess = registers[base + first] < registers[base + second];
                    target = isLess ? program.operand(row, 2) : target;
                    break;
            }
            places[current] = target;
            branches[current]++;
        }

        private void work(Program program, int row, int input) {
            int base = current * REGISTERS;
            int first = program.operand(row, 0);
            int second = program.operand(row, 1);
            switch (program.ops[row]) {
                case SET:
                    registers[base + first] = second;
                    break;
                case LOAD:
                    registers[base + first] = cells[second];
                    break;
                case STORE:
                    cells[first] = registers[base + second];
                    break;
                case ADD:
                    registers[base + first] += registers[base + second];
                    break;
                case SUB:
                    registers[base + first] -= registers[base + second];
                    break;
                case MUL:
                    registers[base + first] *= registers[base + second];
                    break;
                case READ:
                    registers[base + first] = input;
                    reads[second]++;
                    break;
                case LOCK:
                    owners[first] = current;
                    break;
                case UNLOCK:
                    owners[first] = owners[first] == current ? NONE : owners[first];
                    break;
                default:
                    break;
            }
        }

        int digestOf(Program program) {
            int digest = 7;
            for (int cell : cells) {
                digest = digest * 31 + cell;
            }
            for (int thread = 0; thread < program.threads; thread++) {
                for (int i = 0; i < REGISTERS; i++) {
                    digest = digest * 31 + registers[thread * REGISTERS + i];
                }
                digest = digest * 31 + places[thread];
                digest = digest * 31 + branches[thread];
            }
            for (int owner : owners) {
                digest = digest * 31 + owner;
            }
            return digest * 31 + current;
        }

        boolean isLike(Machine other, int threads) {
            return current == other.current
                && sameNumbers(places, other.places, threads)
                && sameNumbers(branches, other.branches, threads)
                && sameNumbers(registers, other.registers, threads * REGISTERS)
                && sameNumbers(owners, other.owners, LOCKS)
                && sameNumbers(cells, other.cells, CELLS);
        }
    }

    /** A machine that runs by draws. */
    private static final class Runner {
        final Machine machine = new Machine();
        int drawn;
        int left;
        // Of the latest STEP: its row, and whether another THREAD came; BRANCHES and PLACE that were left.
        int row = NONE;
        boolean hasTurned;
        int leftBranches;
        int leftPlace;

        void begin(Program program, int seed) {
            machine.begin(program);
            drawn = seed;
            left = 0;
        }

        void copy(Runner from) {
            machine.copy(from.machine);
            drawn = from.drawn;
            left = from.left;
        }

        /** A STEP; false: none can go, nothing is done. */
        boolean advance(Program program, Course course, int quantum) {
            hasTurned = false;
            int[] limits = course.givenCounts;
            if (left == 0 || !machine.canGo(program, machine.current, limits)) {
                int able = machine.countAble(program, limits);
                if (able == 0) {
                    return false;
                }
                turnTo(pick(program, limits, draw(able)));
                left = draw(quantum) + 1;
            }
            row = machine.nextRow(program, machine.current);
            int source = machine.sourceWanted(program);
            machine.obey(program, source == NONE ? 0 : course.inputAt(source, machine.reads[source]));
            left--;
            return true;
        }

        private int draw(int n) {
            drawn = drawn * 1103515245 + 12345;
            int bits = drawn >>> 16 & 0x7fff;
            return n < 1 ? 0 : bits % n;
        }

        private int pick(Program program, int[] limits, int which) {
            int ahead = which;
            for (int thread = 0; thread < program.threads; thread++) {
                if (machine.canGo(program, thread, limits)) {
                    if (ahead == 0) {
                        return thread;
                    }
                    ahead--;
                }
            }
            return machine.current;
        }

        private void turnTo(int thread) {
            int current = machine.current;
            hasTurned = thread != current;
            leftBranches = current == NONE ? 0 : machine.branches[current];
            leftPlace = current == NONE ? 0 : machine.places[current];
            machine.current = thread;
        }
    }

    /** The ACTS that are kept, and what undoing STEPS can't find in the RECORD. */
    private static final class Acts {
        // The SOURCE that was given to; NONE: STEPS were done.
        final int[] sources = new int[ACTS_MOST];
        final int[] times = new int[ACTS_MOST];
        final int[] lefts = new int[ACTS_MOST];
        final int[] drawns = new int[ACTS_MOST];
        int size = 0;

        void copy(Acts from) {
            System.arraycopy(from.sources, 0, sources, 0, ACTS_MOST);
            System.arraycopy(from.times, 0, times, 0, ACTS_MOST);
            System.arraycopy(from.lefts, 0, lefts, 0, ACTS_MOST);
            System.arraycopy(from.drawns, 0, drawns, 0, ACTS_MOST);
            size = from.size;
        }

        void keep(int source, int time, int left, int drawn) {
            if (size >= ACTS_MOST) {
                dropFirst(sources);
                dropFirst(times);
                dropFirst(lefts);
                dropFirst(drawns);
                size = ACTS_MOST - 1;
            }
            sources[size] = source;
            times[size] = time;
            lefts[size] = left;
            drawns[size] = drawn;
            size++;
        }

        private static void dropFirst(int[] numbers) {
            System.arraycopy(numbers, 1, numbers, 0, ACTS_MOST - 1);
        }
    }

    /** All that an IMAGE keeps: the run at TIME, the RECORD, the CURSOR, ACTS, STATUS. */
    private static final class Course {
        final Runner runner = new Runner();
        // INPUTS are read in the order in which they were given: those in the RECORD are the first ones.
        final int[] given = new int[SOURCES * GIVEN_MOST];
        final int[] givenCounts = new int[SOURCES];
        final int[] switchBranches = new int[TIME_MOST];
        final int[] switchPlaces = new int[TIME_MOST];
        final int[] switchThreads = new int[TIME_MOST];
        final int[] digests = new int[TIME_MOST];
        // The row that each STEP did, from 1 on.
        final int[] did = new int[TIME_MOST + 1];
        final Acts acts = new Acts();
        int switches = 0;
        int time = 0;
        int cursor = 0;
        int refusedTexts = 0;
        int refusedActs = 0;

        /** STATUS stays: it counts calls, whatever the PROGRAM is. */
        void begin(Program program) {
            runner.begin(program, program.settings[SEED]);
            Arrays.fill(givenCounts, 0);
            acts.size = 0;
            switches = 0;
            time = 0;
            cursor = 0;
        }

        void copy(Course from) {
            runner.copy(from.runner);
            System.arraycopy(from.given, 0, given, 0, given.length);
            System.arraycopy(from.givenCounts, 0, givenCounts, 0, givenCounts.length);
            System.arraycopy(from.switchBranches, 0, switchBranches, 0, TIME_MOST);
            System.arraycopy(from.switchPlaces, 0, switchPlaces, 0, TIME_MOST);
            System.arraycopy(from.switchThreads, 0, switchThreads, 0, TIME_MOST);
            System.arraycopy(from.digests, 0, digests, 0, TIME_MOST);
            System.arraycopy(from.did, 0, did, 0, did.length);
            acts.copy(from.acts);
            switches = from.switches;
            time = from.time;
            cursor = from.cursor;
            refusedTexts = from.refusedTexts;
            refusedActs = from.refusedActs;
        }

        int inputAt(int source, int i) {
            return i >= 0 && i < GIVEN_MOST ? given[source * GIVEN_MOST + i] : 0;
        }

        /** A STEP that is put down; false: none can go. */
        boolean putDownStep(Program program) {
            if (time >= TIME_MOST || !runner.advance(program, this, program.settings[QUANTUM])) {
                return false;
            }
            if (runner.hasTurned && switches < TIME_MOST) {
                switchBranches[switches] = runner.leftBranches;
                switchPlaces[switches] = runner.leftPlace;
                switchThreads[switches] = runner.machine.current;
                switches++;
            }
            time++;
            did[time] = runner.row;
            if (time % program.point() == 0) {
                digests[time / program.point() - 1] = runner.machine.digestOf(program);
            }
            return true;
        }
    }

    /** A machine that runs by the RECORD, as it is or with one alteration. */
    private static final class Replay {
        final Machine machine = new Machine();
        int done = 0;
        int taken = 0;
        boolean isStuck = false;
        private int how = ALTER_NOTHING;
        private int which = 0;
        private int number = 0;

        void begin(Program program) {
            machine.begin(program);
            done = 0;
            taken = 0;
            isStuck = false;
            how = ALTER_NOTHING;
        }

        void alter(int way, int i, int other) {
            how = way;
            which = i;
            number = other;
            if (how == ALTER_CELL && i >= 0 && i < CELLS) {
                machine.cells[i] = other;
            }
        }

        void runTo(int step, Program program, Course course) {
            for (int i = done; i < step; i++) {
                if (!advance(program, course)) {
                    return;
                }
            }
        }

        /** A STEP; false: it is stuck. */
        boolean advance(Program program, Course course) {
            if (isStuck) {
                return false;
            }
            takeSwitch(course);
            if (!machine.canGo(program, machine.current, course.runner.machine.reads)) {
                isStuck = true;
                return false;
            }
            int source = machine.sourceWanted(program);
            machine.obey(program, source == NONE ? 0 : inputFrom(course, source));
            done++;
            return true;
        }

        private void takeSwitch(Course course) {
            int at = how == ALTER_NO_SWITCH && taken >= which ? taken + 1 : taken;
            int current = machine.current;
            boolean isDue = at < course.switches && (current == NONE
                || machine.branches[current] == course.switchBranches[at]
                && machine.places[current] == course.switchPlaces[at]);
            if (isDue) {
                machine.current = how == ALTER_SWITCH && at == which ? number : course.switchThreads[at];
                taken++;
            }
        }

        private int inputFrom(Course course, int source) {
            int i = machine.reads[source];
            return how == ALTER_INPUT + source && i == which ? number : course.inputAt(source, i);
        }
    }

    /** At which STEPS the SNAPSHOTS are: TIME and SNAPS alone tell it, so none is kept. */
    private static final class Snapshots {
        final int[] steps = new int[SNAPS_MOST + 1];
        int size = 1;

        void make(int time, int snaps) {
            size = 1;
            steps[0] = 0;
            for (int step = SNAPSHOT_GAP; step <= time; step += SNAPSHOT_GAP) {
                if (size <= SNAPS_MOST) {
                    steps[size] = step;
                    size++;
                }
                if (size > snaps) {
                    drop(closest());
                }
            }
        }

        private int closest() {
            int best = 1;
            for (int i = 2; i < size - 1; i++) {
                if (steps[i + 1] - steps[i - 1] < steps[best + 1] - steps[best - 1]) {
                    best = i;
                }
            }
            return best;
        }

        private void drop(int which) {
            for (int i = which; i < size - 1; i++) {
                steps[i] = steps[i + 1];
            }
            size--;
        }

        int cost(int step) {
            int from = 0;
            for (int i = 0; i < size && steps[i] <= step; i++) {
                from = steps[i];
            }
            return step - from;
        }

        int greatestCost(int time) {
            int greatest = cost(time);
            for (int i = 1; i < size; i++) {
                greatest = Math.max(greatest, steps[i] - 1 - steps[i - 1]);
            }
            return greatest;
        }
    }

    /** Who has the LOCKS, told by the rows that were done alone. */
    private static final class Holders {
        final int[] owners = new int[LOCKS];

        void clear() {
            Arrays.fill(owners, NONE);
        }

        void see(Program program, int row) {
            int lock = program.operand(row, 0);
            int thread = row / LINES_MOST;
            if (program.ops[row] == LOCK) {
                owners[lock] = thread;
            } else if (isRelease(program, row)) {
                owners[lock] = NONE;
            }
        }

        /** An 'unlock' by one who hasn't the LOCK orders nothing. */
        boolean isRelease(Program program, int row) {
            return program.ops[row] == UNLOCK
                && owners[program.operand(row, 0)] == row / LINES_MOST;
        }

        int heldBy(int thread) {
            int bits = 0;
            for (int lock = 0; lock < LOCKS; lock++) {
                if (owners[lock] == thread) {
                    bits |= 1 << lock;
                }
            }
            return bits;
        }
    }

    /** RACES are many more than STEPS: of each later STEP only their count is kept. */
    private static final class Races {
        final int[] counts = new int[TIME_MOST + 1];
        final int[] touched = new int[TIME_MOST + 1];
        // Of each STEP and THREAD: the latest STEP of that THREAD that is ahead by ORDER.
        private final int[] ahead = new int[(TIME_MOST + 1) * THREADS_MOST];
        private final int[] byThread = new int[THREADS_MOST * THREADS_MOST];
        private final int[] byLock = new int[LOCKS * THREADS_MOST];
        // Of each row: the rows that were later ones of its races, a bit each.
        private final long[] couples = new long[ROWS_MOST];
        int total = 0;
        int cellBits = 0;
        boolean isFresh = false;

        void find(Program program, Course course, Holders holders) {
            if (isFresh) {
                return;
            }
            clear();
            holders.clear();
            for (int step = 1; step <= course.time; step++) {
                int row = course.did[step];
                order(program, row, step, holders);
                holders.see(program, row);
                touched[step] = program.cellTouched(row);
                if (touched[step] != NONE) {
                    countAt(step, program, course);
                }
            }
            isFresh = true;
        }

        private void clear() {
            Arrays.fill(counts, 0);
            Arrays.fill(byThread, 0);
            Arrays.fill(byLock, 0);
            Arrays.fill(couples, 0);
            total = 0;
            cellBits = 0;
        }

        private void order(Program program, int row, int step, Holders holders) {
            int thread = row / LINES_MOST;
            int lock = program.operand(row, 0);
            byThread[thread * THREADS_MOST + thread] = step;
            if (program.ops[row] == LOCK) {
                for (int i = 0; i < THREADS_MOST; i++) {
                    int mine = thread * THREADS_MOST + i;
                    byThread[mine] = Math.max(byThread[mine], byLock[lock * THREADS_MOST + i]);
                }
            } else if (holders.isRelease(program, row)) {
                System.arraycopy(byThread, thread * THREADS_MOST, byLock, lock * THREADS_MOST, THREADS_MOST);
            }
            System.arraycopy(byThread, thread * THREADS_MOST, ahead, step * THREADS_MOST, THREADS_MOST);
        }

        private void countAt(int later, Program program, Course course) {
            for (int step = 1; step < later; step++) {
                if (isRace(step, later, program, course)) {
                    counts[later]++;
                    total++;
                    cellBits |= 1 << touched[later];
                    couples[course.did[step]] |= 1L << course.did[later];
                }
            }
        }

        private boolean isRace(int earlier, int later, Program program, Course course) {
            if (touched[earlier] != touched[later]) {
                return false;
            }
            int row = course.did[earlier];
            boolean isStored = program.ops[row] == STORE || program.ops[course.did[later]] == STORE;
            // Of the later one's own THREAD every earlier STEP is ahead of it.
            return isStored && ahead[later * THREADS_MOST + row / LINES_MOST] < earlier;
        }

        int countCouples() {
            int many = 0;
            for (long bits : couples) {
                many += Long.bitCount(bits);
            }
            return many;
        }

        int laterStep(int i, int time) {
            int rest = i;
            for (int step = 1; step <= time; step++) {
                if (rest < counts[step]) {
                    return step;
                }
                rest -= counts[step];
            }
            return NONE;
        }

        int earlierStep(int i, int later, Program program, Course course) {
            int rest = i;
            for (int step = 1; step < later; step++) {
                rest -= counts[step];
            }
            for (int step = 1; step < later; step++) {
                if (isRace(step, later, program, course)) {
                    if (rest == 0) {
                        return step;
                    }
                    rest--;
                }
            }
            return NONE;
        }
    }

    /** INSTRUCTIONS that were done, in the order in which they first were. */
    private static final class Hot {
        final int[] rows = new int[ROWS_MOST];
        final int[] times = new int[ROWS_MOST];
        int size = 0;

        void find(Course course) {
            Arrays.fill(times, 0);
            size = 0;
            for (int step = 1; step <= course.time; step++) {
                int row = course.did[step];
                if (times[row] == 0) {
                    rows[size] = row;
                    size++;
                }
                times[row]++;
            }
        }
    }
}
