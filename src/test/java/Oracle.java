import java.util.ArrayDeque;
import java.util.ArrayList;
import java.util.Arrays;
import java.util.Deque;
import java.util.HashMap;
import java.util.HashSet;
import java.util.LinkedHashMap;
import java.util.List;
import java.util.Map;
import java.util.NoSuchElementException;
import java.util.Set;
import java.util.TreeSet;

/**
 * The document a second time, written in other ways than the class: states are copied whole,
 * undoing takes a copy back, ORDER is a closure of couples. Slow, and plain on purpose.
 */
final class Oracle {
    static final List<String> CLAUSES = List.of("quantum", "seed", "point", "snaps", "cell", "thread");
    static final List<String> OPS = List.of("set", "load", "store", "add", "sub", "mul", "read",
        "lock", "unlock", "jump", "zero", "less", "skip");

    record Token(String text, int at) {
        boolean isWord() { return text.matches("[a-z]+"); }
        boolean isNumber() { return text.matches("[0-9]+"); }
        boolean isQuoted() { return CLAUSES.contains(text) || OPS.contains(text); }
    }

    static final class Fault extends Exception {
        private static final long serialVersionUID = 1;
        final int code;
        final int at;
        Fault(int code, int at) { this.code = code; this.at = at; }
    }

    static final class Op {
        String name;
        int[] args = new int[3];
        String label;
        Token wanted;
        int thread;
        int index;
    }

    static final class Source {
        int quantum = 3;
        int seed = 1;
        int point = 10;
        int snaps = 4;
        int[] cells = new int[16];
        List<List<Op>> threads = new ArrayList<>();
    }

    /** Recursive descent over all the tokens. */
    static final class Parser {
        final List<Token> tokens = new ArrayList<>();
        final int length;
        int next = 0;
        final Source source = new Source();
        final Set<String> told = new HashSet<>();

        Parser(byte[] bytes) {
            length = bytes.length;
            int i = 0;
            while (i < length) {
                int from = i;
                char c = (char) (bytes[i] & 255);
                i++;
                if (c == ' ' || c == '\n') {
                    continue;
                }
                String row = c >= 'a' && c <= 'z' ? "[a-z]" : c >= '0' && c <= '9' ? "[0-9]" : null;
                while (row != null && i < length && String.valueOf((char) (bytes[i] & 255)).matches(row)) {
                    i++;
                }
                StringBuilder text = new StringBuilder();
                for (int k = from; k < i; k++) {
                    text.append((char) (bytes[k] & 255));
                }
                tokens.add(new Token(text.toString(), from));
            }
        }

        Token peek() throws Fault {
            if (next >= tokens.size()) {
                throw new Fault(1, length);
            }
            return tokens.get(next);
        }

        Token sign(String one) throws Fault {
            Token token = peek();
            if (!token.text.equals(one)) {
                throw new Fault(1, token.at);
            }
            next++;
            return token;
        }

        int number(int least, int most) throws Fault {
            Token token = peek();
            if (!token.isNumber()) {
                throw new Fault(1, token.at);
            }
            if (token.text.length() > 4) {
                throw new Fault(2, token.at);
            }
            int value = Integer.parseInt(token.text);
            if (value < least || value > most) {
                throw new Fault(2, token.at);
            }
            next++;
            return value;
        }

        int signed() throws Fault {
            if (peek().text.equals("-")) {
                next++;
                return -number(0, 9999);
            }
            return number(0, 9999);
        }

        Token name() throws Fault {
            Token token = peek();
            if (!token.isWord() || token.isQuoted()) {
                throw new Fault(1, token.at);
            }
            if (token.text.length() > 8) {
                throw new Fault(2, token.at);
            }
            next++;
            return token;
        }

        Source parse() throws Fault {
            while (next < tokens.size()) {
                clause();
            }
            for (List<Op> thread : source.threads) {
                for (Op op : thread) {
                    if (op.wanted == null) {
                        continue;
                    }
                    int found = -1;
                    for (Op other : thread) {
                        if (op.wanted.text.equals(other.label)) {
                            found = other.index;
                        }
                    }
                    if (found < 0) {
                        throw new Fault(3, op.wanted.at);
                    }
                    op.args[2] = found;
                }
            }
            return source;
        }

        void clause() throws Fault {
            Token word = peek();
            if (!CLAUSES.contains(word.text)) {
                throw new Fault(1, word.at);
            }
            if (word.text.equals("thread")) {
                if (source.threads.size() == 4) {
                    throw new Fault(2, word.at);
                }
                next++;
                thread();
            } else if (word.text.equals("cell")) {
                next++;
                Token at = peek();
                int cell = number(0, 15);
                if (!told.add("cell" + cell)) {
                    throw new Fault(5, at.at);
                }
                source.cells[cell] = signed();
            } else {
                if (!told.add(word.text)) {
                    throw new Fault(5, word.at);
                }
                next++;
                switch (word.text) {
                    case "quantum" -> source.quantum = number(1, 9);
                    case "seed" -> source.seed = number(0, 9999);
                    case "point" -> source.point = number(1, 50);
                    default -> source.snaps = number(2, 8);
                }
            }
            sign(";");
        }

        void thread() throws Fault {
            List<Op> ops = new ArrayList<>();
            source.threads.add(ops);
            line(ops);
            while (peek().text.equals(",")) {
                next++;
                line(ops);
            }
        }

        void line(List<Op> ops) throws Fault {
            Token first = peek();
            boolean canStand = first.isWord() && (OPS.contains(first.text) || !first.isQuoted());
            if (!canStand) {
                throw new Fault(1, first.at);
            }
            if (ops.size() == 16) {
                throw new Fault(2, first.at);
            }
            Op op = new Op();
            op.thread = source.threads.size() - 1;
            op.index = ops.size();
            if (!OPS.contains(first.text)) {
                op.label = name().text;
                for (Op other : ops) {
                    if (op.label.equals(other.label)) {
                        throw new Fault(4, first.at);
                    }
                }
                sign(":");
            }
            ops.add(op);
            instruction(op);
        }

        void instruction(Op op) throws Fault {
            Token word = peek();
            if (!OPS.contains(word.text)) {
                throw new Fault(1, word.at);
            }
            next++;
            op.name = word.text;
            switch (op.name) {
                case "set" -> { op.args[0] = number(0, 3); op.args[1] = signed(); }
                case "load" -> { op.args[0] = number(0, 3); op.args[1] = number(0, 15); }
                case "store" -> { op.args[0] = number(0, 15); op.args[1] = number(0, 3); }
                case "add", "sub", "mul" -> { op.args[0] = number(0, 3); op.args[1] = number(0, 3); }
                case "read" -> { op.args[0] = number(0, 3); op.args[1] = number(0, 2); }
                case "lock", "unlock" -> op.args[0] = number(0, 3);
                case "jump" -> op.wanted = name();
                case "zero" -> { op.args[0] = number(0, 3); op.wanted = name(); }
                case "less" -> { op.args[0] = number(0, 3); op.args[1] = number(0, 3); op.wanted = name(); }
                default -> { }
            }
        }
    }

    /** All the numbers of a DIGEST in a row, and the INPUTS that were read. */
    static final class State {
        final Source source;
        int[] cells;
        int[][] registers;
        int[] place;
        int[] branches;
        int[] owner = {-1, -1, -1, -1};
        int current = -1;
        int[] reads = new int[3];

        State(Source source) {
            this.source = source;
            cells = source.cells.clone();
            int n = source.threads.size();
            registers = new int[n][4];
            place = new int[n];
            branches = new int[n];
        }

        State copy() {
            State to = new State(source);
            to.cells = cells.clone();
            for (int i = 0; i < registers.length; i++) {
                to.registers[i] = registers[i].clone();
            }
            to.place = place.clone();
            to.branches = branches.clone();
            to.owner = owner.clone();
            to.current = current;
            to.reads = reads.clone();
            return to;
        }

        List<Integer> numbers() {
            List<Integer> all = new ArrayList<>();
            for (int c : cells) all.add(c);
            for (int t = 0; t < place.length; t++) {
                for (int r : registers[t]) all.add(r);
                all.add(place[t]);
                all.add(branches[t]);
            }
            for (int o : owner) all.add(o);
            all.add(current);
            return all;
        }

        int digest() {
            int h = 7;
            for (int n : numbers()) h = h * 31 + n;
            return h;
        }

        boolean ended(int t) { return place[t] == source.threads.get(t).size(); }

        Op next(int t) { return ended(t) ? null : source.threads.get(t).get(place[t]); }

        boolean canGo(int t, List<List<Integer>> inputs) {
            Op op = next(t);
            if (op == null) return false;
            if (op.name.equals("lock") && owner[op.args[0]] != -1) return false;
            return !op.name.equals("read") || reads[op.args[1]] < inputs.get(op.args[1]).size();
        }

        Op doIt(List<List<Integer>> inputs) {
            int t = current;
            Op op = next(t);
            int[] r = registers[t];
            int[] a = op.args;
            place[t]++;
            switch (op.name) {
                case "set" -> r[a[0]] = a[1];
                case "load" -> r[a[0]] = cells[a[1]];
                case "store" -> cells[a[0]] = r[a[1]];
                case "add" -> r[a[0]] = r[a[0]] + r[a[1]];
                case "sub" -> r[a[0]] = r[a[0]] - r[a[1]];
                case "mul" -> r[a[0]] = r[a[0]] * r[a[1]];
                case "read" -> { r[a[0]] = inputs.get(a[1]).get(reads[a[1]]); reads[a[1]]++; }
                case "lock" -> owner[a[0]] = t;
                case "unlock" -> { if (owner[a[0]] == t) owner[a[0]] = -1; }
                case "jump" -> { place[t] = a[2]; branches[t]++; }
                case "zero" -> { if (r[a[0]] == 0) place[t] = a[2]; branches[t]++; }
                case "less" -> { if (r[a[0]] < r[a[1]]) place[t] = a[2]; branches[t]++; }
                default -> { }
            }
            return op;
        }
    }

    record Switch(int branches, int place, int to) { }

    /** What was done by a STEP, and which LOCKS the doer had just ahead of it. */
    record Done(Op op, int heldBits, boolean ownedIt) { }

    /** A run with all its record; copied whole for acts and images. */
    static final class Run {
        final Source source;
        State state;
        int quantum;
        int drawn;
        int left = 0;
        List<List<Integer>> given = new ArrayList<>(List.of(List.of(), List.of(), List.of()));
        List<Switch> switches = new ArrayList<>();
        List<Integer> digests = new ArrayList<>();
        List<Integer> snapshots = new ArrayList<>(List.of(0));
        List<Done> dones = new ArrayList<>();

        Run(Source source, int seed, int quantum) {
            this.source = source;
            this.state = new State(source);
            this.drawn = seed;
            this.quantum = quantum;
        }

        Run copy() {
            Run to = new Run(source, drawn, quantum);
            to.state = state.copy();
            to.left = left;
            to.given = new ArrayList<>(given);
            to.switches = new ArrayList<>(switches);
            to.digests = new ArrayList<>(digests);
            to.snapshots = new ArrayList<>(snapshots);
            to.dones = new ArrayList<>(dones);
            return to;
        }

        int time() { return dones.size(); }

        int draw(int n) {
            drawn = drawn * 1103515245 + 12345;
            return ((drawn & 0x7fff0000) >> 16) % n;
        }

        List<Integer> able() {
            List<Integer> can = new ArrayList<>();
            for (int t = 0; t < source.threads.size(); t++) {
                if (state.canGo(t, given)) can.add(t);
            }
            return can;
        }

        boolean step() {
            List<Integer> can = able();
            if (can.isEmpty()) return false;
            if (left == 0 || !can.contains(state.current)) {
                int who = can.get(draw(can.size()));
                left = 1 + draw(quantum);
                int was = state.current;
                if (who != was) {
                    switches.add(was < 0 ? new Switch(0, 0, who) : new Switch(state.branches[was], state.place[was], who));
                }
                state.current = who;
            }
            int held = 0;
            for (int l = 0; l < 4; l++) if (state.owner[l] == state.current) held |= 1 << l;
            Op op = state.doIt(given);
            boolean owned = op.name.equals("unlock") && (held >> op.args[0] & 1) == 1;
            dones.add(new Done(op, held, owned));
            left--;
            if (time() % source.point == 0) digests.add(state.digest());
            if (time() % 16 == 0) takeSnapshot();
            return true;
        }

        void takeSnapshot() {
            snapshots.add(time());
            if (snapshots.size() > source.snaps) {
                int best = -1;
                int gap = 9999;
                for (int i = 1; i + 1 < snapshots.size(); i++) {
                    int g = snapshots.get(i + 1) - snapshots.get(i - 1);
                    if (g < gap) { gap = g; best = i; }
                }
                snapshots.remove(best);
            }
        }

        int cost(int step) {
            int best = Integer.MAX_VALUE;
            for (int s : snapshots) if (s <= step) best = Math.min(best, step - s);
            return best;
        }

        List<List<Integer>> inputsRead() {
            List<List<Integer>> all = new ArrayList<>();
            for (int s = 0; s < 3; s++) all.add(new ArrayList<>(given.get(s).subList(0, state.reads[s])));
            return all;
        }
    }

    /** All states behind 0, 1 .. steps of a replay, as far as it comes. */
    static List<State> replay(Source source, int[] cells, List<Switch> switches, List<List<Integer>> inputs, int time) {
        State state = new State(source);
        state.cells = cells.clone();
        Deque<Switch> rest = new ArrayDeque<>(switches);
        List<State> states = new ArrayList<>();
        states.add(state.copy());
        while (states.size() <= time) {
            Switch first = rest.peek();
            if (first != null && (state.current < 0
                || state.branches[state.current] == first.branches && state.place[state.current] == first.place)) {
                state.current = rest.poll().to;
            }
            if (state.current < 0 || !state.canGo(state.current, inputs)) break;
            state.doIt(inputs);
            states.add(state.copy());
        }
        return states;
    }

    private final List<Byte> tape = new ArrayList<>();
    private Source source = new Source();
    private Run run = new Run(source, 1, 3);
    private List<Object> acts = new ArrayList<>();
    private int cursor = 0;
    private int place = -1;
    private int[] status = new int[2];
    private Run imageRun = null;
    private List<Object> imageActs;
    private int imageCursor;
    private int[] imageStatus;
    private List<State> shown = null;

    int feed(int... words) {
        if (tape.size() + 20 > 700) return -1;
        for (int w : words) {
            for (int b = 3; b >= 0; b--) tape.add((byte) (w >> 8 * b));
        }
        return tape.size();
    }

    int program(int n) {
        if (n < 0 || n > tape.size()) throw new IllegalArgumentException();
        byte[] bytes = new byte[n];
        for (int i = 0; i < n; i++) bytes[i] = tape.get(i);
        tape.clear();
        try {
            source = new Parser(bytes).parse();
        } catch (Fault fault) {
            place = fault.at;
            status[0]++;
            return fault.code;
        }
        place = -1;
        run = new Run(source, source.seed, source.quantum);
        acts = new ArrayList<>();
        cursor = 0;
        imageRun = null;
        shown = null;
        return 0;
    }

    int fault() { return place; }

    private static NoSuchElementException none() { return new NoSuchElementException(); }

    private static void need(boolean is) { if (!is) throw none(); }

    private List<State> states() {
        if (shown == null) {
            shown = replay(source, source.cells, run.switches, run.inputsRead(), run.time());
            if (shown.size() != run.time() + 1) throw new AssertionError("the replay is stuck");
            if (!shown.get(run.time()).numbers().equals(run.state.numbers())) throw new AssertionError("the replay is another one");
        }
        return shown;
    }

    private State at() { return states().get(cursor); }

    int count(int what) {
        State s = run.state;
        int n = source.threads.size();
        switch (what) {
            case 0: return n;
            case 1: return run.time();
            case 2: return s.current;
            case 3: return run.left;
            case 4: return run.switches.size();
            case 5: return Arrays.stream(s.reads).sum();
            case 6: return run.digests.size();
            case 7: return run.able().size();
            case 8: { int k = 0; for (int t = 0; t < n; t++) if (s.ended(t)) k++; return k; }
            case 9: return run.snapshots.size();
            case 10: { int k = 0; for (int i = 0; i <= run.time(); i++) k = Math.max(k, run.cost(i)); return k; }
            case 11: return cursor;
            case 12: return ring();
            case 13: { int k = 0; for (int i = 0; i < 3; i++) k += run.given.get(i).size() - s.reads[i]; return k; }
            case 14: return acts.size();
            case 15: return tape.size();
            case 16: return status[0];
            case 17: return status[1];
            default: throw none();
        }
    }

    private int ring() {
        int n = source.threads.size();
        boolean[][] waits = new boolean[n][n];
        for (int t = 0; t < n; t++) {
            Op op = run.state.next(t);
            if (op != null && op.name.equals("lock") && run.state.owner[op.args[0]] >= 0) waits[t][run.state.owner[op.args[0]]] = true;
        }
        for (int k = 0; k < n; k++) for (int i = 0; i < n; i++) for (int j = 0; j < n; j++) waits[i][j] |= waits[i][k] && waits[k][j];
        int bits = 0;
        for (int t = 0; t < n; t++) if (waits[t][t]) bits |= 1 << t;
        return bits;
    }

    int set(int what) {
        return switch (what) {
            case 0 -> source.quantum;
            case 1 -> source.seed;
            case 2 -> source.point;
            case 3 -> source.snaps;
            default -> throw none();
        };
    }

    private void keepAct(Run before) {
        acts.add(before);
        if (acts.size() > 40) acts.remove(0);
        shown = null;
    }

    int steps(int many) {
        if (many < 1 || many > 50 || run.time() + many > 400 || run.able().isEmpty()) {
            status[1]++;
            return -1;
        }
        keepAct(run.copy());
        int done = 0;
        while (done < many && run.step()) done++;
        return done;
    }

    int give(int source, int number) {
        if (source < 0 || source > 2 || run.given.get(source).size() == 30) {
            status[1]++;
            return -1;
        }
        keepAct(run.copy());
        List<Integer> row = new ArrayList<>(run.given.get(source));
        row.add(number);
        run.given.set(source, row);
        return row.size();
    }

    int undo() {
        if (acts.isEmpty()) return -1;
        run = ((Run) acts.remove(acts.size() - 1)).copy();
        if (cursor > run.time()) cursor = run.time();
        shown = null;
        return acts.size();
    }

    int switched(int i, int what) {
        need(i >= 0 && i < run.switches.size() && what >= 0 && what <= 2);
        Switch s = run.switches.get(i);
        return what == 0 ? s.branches : what == 1 ? s.place : s.to;
    }

    int input(int source, int i) {
        need(source >= 0 && source <= 2);
        List<Integer> row = run.inputsRead().get(source);
        need(i >= 0 && i < row.size());
        return row.get(i);
    }

    int digest(int i) {
        need(i >= 0 && i < run.digests.size());
        return run.digests.get(i);
    }

    int snapshot(int i) {
        need(i >= 0 && i < run.snapshots.size());
        return run.snapshots.get(i);
    }

    int seek(int step) {
        need(step >= 0 && step <= run.time());
        cursor = step;
        return run.cost(step);
    }

    private void needCell(int cell) { need(cell >= 0 && cell <= 15); }

    int cell(int cell) {
        needCell(cell);
        return at().cells[cell];
    }

    int thread(int t, int what) {
        need(t >= 0 && t < source.threads.size() && what >= 0 && what <= 7);
        State s = at();
        if (what < 4) return s.registers[t][what];
        if (what == 4) return s.place[t];
        if (what == 5) return s.branches[t];
        return what == 6 ? (s.ended(t) ? 1 : 0) : (s.current == t ? 1 : 0);
    }

    int lock(int lock) {
        need(lock >= 0 && lock <= 3);
        return at().owner[lock];
    }

    int mark() { return at().digest(); }

    private Op op(int t, int i) {
        need(t >= 0 && t < source.threads.size() && i >= 0 && i < source.threads.get(t).size());
        return source.threads.get(t).get(i);
    }

    /** The STEPS, 1 on, that did an INSTRUCTION. */
    private TreeSet<Integer> stepsOf(Op op) {
        TreeSet<Integer> all = new TreeSet<>();
        for (int k = 1; k <= run.time(); k++) if (run.dones.get(k - 1).op == op) all.add(k);
        return all;
    }

    int back(int t, int i) {
        Integer k = stepsOf(op(t, i)).floor(cursor);
        if (k == null) return -1;
        cursor = k - 1;
        return k;
    }

    int on(int t, int i) {
        Integer k = stepsOf(op(t, i)).higher(cursor);
        if (k == null) return -1;
        cursor = k;
        return k;
    }

    private TreeSet<Integer> accesses(int cell, String name) {
        TreeSet<Integer> all = new TreeSet<>();
        for (int k = 1; k <= run.time(); k++) {
            Op op = run.dones.get(k - 1).op;
            if (op.name.equals(name) && op.args[name.equals("load") ? 1 : 0] == cell) all.add(k);
        }
        return all;
    }

    int last(int cell, int what) {
        needCell(cell);
        need(what >= 0 && what <= 2);
        Integer k = accesses(cell, "store").floor(cursor);
        if (k == null) return -1;
        Op op = run.dones.get(k - 1).op;
        return what == 0 ? k : what == 1 ? op.thread : op.index;
    }

    int held(int cell) {
        needCell(cell);
        Integer k = accesses(cell, "store").floor(cursor);
        if (k == null) throw none();
        return states().get(k - 1).cells[cell];
    }

    int firstRead(int cell) {
        needCell(cell);
        Integer load = accesses(cell, "load").higher(cursor);
        Integer store = accesses(cell, "store").higher(cursor);
        return load == null || store != null && store < load ? -1 : load;
    }

    record Race(int earlier, int later, int cell) { }

    private Run racesOf = null;
    private int racesAt = -1;
    private List<Race> racesFound = null;

    private List<Race> allRaces() {
        if (racesOf == run && racesAt == run.time() && racesFound != null) return racesFound;
        int n = run.time();
        boolean[][] ahead = new boolean[n + 1][n + 1];
        for (int b = 1; b <= n; b++) {
            Done later = run.dones.get(b - 1);
            for (int a = b - 1; a >= 1; a--) {
                Done earlier = run.dones.get(a - 1);
                boolean direct = earlier.op.thread == later.op.thread
                    || earlier.ownedIt && later.op.name.equals("lock") && earlier.op.args[0] == later.op.args[0];
                if (direct && !ahead[a][b]) {
                    ahead[a][b] = true;
                    for (int c = 1; c < a; c++) if (ahead[c][a]) ahead[c][b] = true;
                }
            }
        }
        List<Race> all = new ArrayList<>();
        for (int b = 1; b <= n; b++) {
            for (int a = 1; a < b; a++) {
                Op x = run.dones.get(a - 1).op;
                Op y = run.dones.get(b - 1).op;
                int cx = x.name.equals("load") ? x.args[1] : x.name.equals("store") ? x.args[0] : -1;
                int cy = y.name.equals("load") ? y.args[1] : y.name.equals("store") ? y.args[0] : -2;
                boolean stores = x.name.equals("store") || y.name.equals("store");
                if (cx == cy && stores && x.thread != y.thread && !ahead[a][b]) all.add(new Race(a, b, cx));
            }
        }
        racesOf = run;
        racesAt = n;
        racesFound = all;
        return all;
    }

    int races(int what) {
        need(what >= 0 && what <= 2);
        Set<Object> kinds = new HashSet<>();
        for (Race r : allRaces()) {
            kinds.add(what == 0 ? r : what == 1 ? r.cell : List.of(run.dones.get(r.earlier - 1).op, run.dones.get(r.later - 1).op));
        }
        return kinds.size();
    }

    int race(int i, int what) {
        need(what >= 0 && what <= 2 && i >= 0 && i < allRaces().size());
        Race r = allRaces().get(i);
        return what == 0 ? r.earlier : what == 1 ? r.later : r.cell;
    }

    int guards(int cell) {
        needCell(cell);
        int bits = 15;
        for (String name : List.of("load", "store")) for (int k : accesses(cell, name)) bits &= run.dones.get(k - 1).heldBits;
        return bits;
    }

    int hot(int i, int what) {
        Map<Op, Integer> often = new LinkedHashMap<>();
        for (Done done : run.dones) often.merge(done.op, 1, Integer::sum);
        if (i == -1) return often.size();
        need(i >= 0 && i < often.size() && what >= 0 && what <= 2);
        Op op = new ArrayList<>(often.keySet()).get(i);
        return what == 0 ? op.thread : what == 1 ? op.index : often.get(op);
    }

    int diverged(int how, int i, int number, int what) {
        need(what >= 0 && what <= 2 && how >= 0 && how <= 5 && i >= 0);
        List<Switch> switches = new ArrayList<>(run.switches);
        List<List<Integer>> inputs = run.inputsRead();
        int[] cells = source.cells.clone();
        if (how <= 1) {
            need(i < switches.size());
            need(how == 1 || number >= 0 && number < source.threads.size());
            Switch was = switches.remove(i);
            if (how == 0) switches.add(i, new Switch(was.branches, was.place, number));
        } else if (how <= 4) {
            need(i < inputs.get(how - 2).size());
            inputs.get(how - 2).set(i, number);
        } else {
            needCell(i);
            cells[i] = number;
        }
        List<State> other = replay(source, cells, switches, inputs, run.time());
        int came = other.size() - 1;
        if (what == 2) return came < run.time() ? came : -1;
        for (int k = 0; k <= run.time(); k++) {
            if (what == 0 && (k > came || !other.get(k).numbers().equals(states().get(k).numbers()))) return k;
            if (what == 1 && k > 0 && k <= came && k % source.point == 0
                && other.get(k).digest() != run.digests.get(k / source.point - 1)) return k / source.point - 1;
        }
        return -1;
    }

    int matters(int from) {
        need(from >= 0 && from <= 2);
        int many = 0;
        for (int i = 0; i < run.inputsRead().get(from).size(); i++) {
            List<List<Integer>> inputs = run.inputsRead();
            inputs.get(from).set(i, inputs.get(from).get(i) + 1);
            List<State> other = replay(source, source.cells, run.switches, inputs, run.time());
            if (other.size() <= run.time() || !Arrays.equals(other.get(run.time()).cells, run.state.cells)) many++;
        }
        return many;
    }

    private Run trial(int n, int seed, int quantum) {
        Run other = new Run(source, seed, quantum);
        other.given = new ArrayList<>(run.given);
        for (int i = 0; i < n; i++) if (!other.step()) break;
        return other;
    }

    private void needTrial(int n, int what) {
        need(what == 0 || what == 1);
        if (n < 0 || n > 400) throw new IllegalArgumentException();
    }

    int outcomes(int n, int what) {
        needTrial(n, what);
        Map<String, Integer> seen = new HashMap<>();
        int least = -1;
        String byZero = null;
        for (int seed = 0; seed <= 6; seed++) {
            String cells = Arrays.toString(trial(n, seed, source.quantum).state.cells);
            seen.putIfAbsent(cells, seed);
            if (seed == 0) byZero = cells;
            if (least < 0 && !cells.equals(byZero)) least = seed;
        }
        return what == 0 ? seen.size() : least;
    }

    int toSpare(int n, int what) {
        needTrial(n, what);
        int best = 0;
        int fewest = Integer.MAX_VALUE;
        for (int quantum = 1; quantum <= 9; quantum++) {
            int many = trial(n, source.seed, quantum).switches.size();
            if (many < fewest) { fewest = many; best = quantum; }
        }
        return what == 0 ? best : fewest;
    }

    void image() {
        imageRun = run.copy();
        imageActs = new ArrayList<>(acts);
        imageCursor = cursor;
        imageStatus = status.clone();
    }

    boolean restore() {
        if (imageRun == null) return false;
        run = imageRun.copy();
        acts = new ArrayList<>(imageActs);
        cursor = imageCursor;
        status = imageStatus.clone();
        shown = null;
        return true;
    }
}
