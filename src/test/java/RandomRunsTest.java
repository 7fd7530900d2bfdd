import java.nio.charset.StandardCharsets;
import java.util.ArrayList;
import java.util.List;
import java.util.NoSuchElementException;
import java.util.Random;
import java.util.function.LongSupplier;

/** Random runs of at most 512 calls on new objects, each answer held against the Oracle's. */
public final class RandomRunsTest {
    private static final String[] NAMES = {"a", "b", "go", "loop", "abcdefgh", "x"};
    private final Random random;
    private final RecordDesk desk = new RecordDesk();
    private final Oracle oracle = new Oracle();
    private final StringBuilder log = new StringBuilder();
    private int calls = 0;
    private int wrong = 0;

    private RandomRunsTest(long seed) { random = new Random(seed); }

    public static void main(String[] args) {
        int runs = args.length > 0 ? Integer.parseInt(args[0]) : 600;
        int wrong = 0;
        for (int run = 1; run <= runs; run++) {
            RandomRunsTest test = new RandomRunsTest(run);
            test.play();
            if (test.wrong > 0) {
                wrong++;
                System.out.println("run " + run + " went wrong:\n" + test.log);
                if (wrong == 3) break;
            }
        }
        System.out.println(wrong == 0 ? runs + " random runs are as due" : "random runs are not as due");
        if (wrong != 0) System.exit(1);
    }

    private static String answer(LongSupplier call) {
        try {
            return String.valueOf(call.getAsLong());
        } catch (NoSuchElementException e) {
            return e.getClass() == NoSuchElementException.class ? "throws.NoSuchElementException" : e.toString();
        } catch (IllegalArgumentException e) {
            return e.getClass() == IllegalArgumentException.class ? "throws.IllegalArgumentException" : e.toString();
        } catch (RuntimeException e) {
            return e.toString();
        }
    }

    private void same(String call, LongSupplier got, LongSupplier due) {
        if (calls >= 512 || wrong > 0) return;
        calls++;
        String was = answer(got);
        String want = answer(due);
        log.append("  ").append(call).append(" = ").append(was).append('\n');
        if (!was.equals(want)) {
            wrong++;
            log.append("  due is ").append(want).append('\n');
        }
    }

    private int below(int n) { return random.nextInt(n); }

    private boolean chance(int percent) { return below(100) < percent; }

    private <T> T one(T[] of) { return of[below(of.length)]; }

    private String number(int most, int percentWrong) {
        if (!chance(percentWrong)) return String.valueOf(below(most + 1));
        return one(new String[] {String.valueOf(most + 1), "9999", "10000", "00001", "0001", "123456", "-"});
    }

    private String instruction(int wrong) {
        String r = number(3, wrong);
        String q = number(3, wrong);
        String c = chance(70) ? String.valueOf(below(3)) : number(15, wrong);
        String l = chance(70) ? String.valueOf(below(2)) : number(3, wrong);
        String s = number(2, wrong);
        String n = chance(90) ? NAMES[below(2)] : one(NAMES);
        switch (below(16)) {
            case 0: return "set " + r + " " + (chance(30) ? "-" : "") + number(9, wrong);
            case 1: case 2: return "load " + r + " " + c;
            case 3: case 4: return "store " + c + " " + r;
            case 5: return "add " + r + " " + q;
            case 6: return "sub " + r + " " + q;
            case 7: return "mul " + r + " " + q;
            case 8: return "read " + r + " " + s;
            case 9: return "lock " + l;
            case 10: case 11: return "unlock " + l;
            case 12: return "jump " + n;
            case 13: return "zero " + r + " " + n;
            case 14: return "less " + r + " " + q + " " + n;
            default: return "skip";
        }
    }

    private String thread(int wrong) {
        int lines = chance(85) ? 1 + below(8) : 1 + below(17);
        StringBuilder text = new StringBuilder("thread ");
        List<String> free = new ArrayList<>(List.of(NAMES));
        for (int i = 0; i < lines; i++) {
            if (i > 0) text.append(',');
            boolean labelled = i < 2 || chance(20);
            if (labelled && !free.isEmpty()) text.append(chance(wrong) ? one(NAMES) : free.remove(0)).append(':');
            String instruction = instruction(wrong);
            // A NAME must be there, mostly: two lines at least have 'a' and 'b'.
            if (lines == 1) instruction = instruction.replaceAll(" (b|go|loop|abcdefgh|x)$", " a");
            else if (!chance(wrong + 1)) instruction = instruction.replaceAll(" (go|loop|abcdefgh|x)$", " b");
            text.append(instruction);
        }
        return text.append(';').toString();
    }

    private String lockThread() {
        int l = below(3);
        int c = below(3);
        String loop = chance(60) ? ",jump a" : "";
        return "thread a:lock " + l + ",load 0 " + c + ",add 0 1,store " + below(3) + " 0,unlock " + l + loop + ";";
    }

    private String readThread() {
        String use = one(new String[] {"store " + below(3) + " 0", "zero 0 a", "less 0 1 a", "add 1 0,store 2 1", "skip", "zero 0 b,store 1 0,b:skip"});
        return "thread a:read 0 " + below(3) + "," + use + (chance(75) ? ",jump a" : "") + ";";
    }

    private String countThread() {
        int c = below(3);
        return "thread set 0 " + below(9) + ",set 1 1,a:load 2 " + c + ",add 2 1,store " + c + " 2,sub 0 1,"
            + one(new String[] {"zero 0 b,jump a,b:skip", "less 3 0 a", "less 3 0 a,lock 0", "unlock 1,jump a"}) + ";";
    }

    private String twoLockThread() {
        int l = below(3);
        int k = below(3);
        return "thread a:lock " + l + ",lock " + k + ",load 0 0,store 0 1,unlock " + k + ",unlock " + l + ",jump a;";
    }

    private String anyThread(int wrong) {
        switch (below(10)) {
            case 0: case 1: return lockThread();
            case 2: case 3: return readThread();
            case 4: case 5: return countThread();
            case 6: return twoLockThread();
            default: return thread(wrong);
        }
    }

    private String text() {
        int wrong = chance(60) ? 0 : 3;
        StringBuilder text = new StringBuilder();
        if (chance(50)) text.append("quantum ").append(chance(wrong) ? number(9, 50) : String.valueOf(1 + below(9))).append(';');
        if (chance(50)) text.append("seed ").append(number(9999, wrong)).append(';');
        if (chance(60)) text.append("point ").append(chance(wrong) ? number(50, 50) : String.valueOf(1 + below(chance(50) ? 4 : 50))).append(';');
        if (chance(50)) text.append("snaps ").append(chance(wrong) ? number(8, 50) : String.valueOf(2 + below(7))).append(';');
        int cells = below(3);
        for (int i = 0; i < cells; i++) {
            text.append("cell ").append(chance(wrong) ? number(15, 50) : String.valueOf(i)).append(chance(30) ? " -" : " ").append(number(99, wrong)).append(';');
        }
        int threads = chance(90) ? 1 + below(4) : below(6);
        for (int i = 0; i < threads; i++) text.append(anyThread(wrong));
        String all = text.toString();
        if (chance(20)) all = spoil(all);
        if (chance(10)) all = all.replace(",", " ,\n ");
        return all.length() > 700 ? all.substring(0, 700) : all;
    }

    private String spoil(String text) {
        StringBuilder all = new StringBuilder(text);
        int times = 1 + below(2);
        for (int i = 0; i < times && all.length() > 0; i++) {
            int at = below(all.length());
            switch (below(4)) {
                case 0: all.deleteCharAt(at); break;
                case 1: all.insert(at, one(new String[] {";", ",", ":", "-", " ", "\n", "7", "a", "A", "\t", "\u00e9", "thread ", "set", "seed 1;", "abcdefghi", "12345"})); break;
                case 2: all.setLength(at); break;
                default: all.insert(at, all.substring(below(at + 1), at)); break;
            }
        }
        return all.toString();
    }

    private void load(String text) {
        byte[] bytes = text.getBytes(StandardCharsets.ISO_8859_1);
        log.append("  text ").append(text).append('\n');
        for (int from = 0; from < bytes.length; from += 20) {
            int[] w = new int[5];
            for (int i = 0; i < 20; i++) {
                int b = from + i < bytes.length ? bytes[from + i] & 255 : 32;
                w[i / 4] = w[i / 4] << 8 | b;
            }
            same("feed", () -> desk.feed(w[0], w[1], w[2], w[3], w[4]), () -> oracle.feed(w));
        }
        int n = chance(3) ? below(720) - 5 : bytes.length;
        same("program(" + n + ")", () -> desk.program(n), () -> oracle.program(n));
        same("fault()", desk::fault, oracle::fault);
    }

    private void play() {
        if (chance(90)) load(text());
        while (calls < 512 && wrong == 0) {
            if (chance(1) && calls < 400) load(text());
            if (chance(25)) act();
            else look();
        }
    }

    private int edgy(int most) { return chance(6) ? one(new Integer[] {-1, most, most + 1, -7, Integer.MAX_VALUE, Integer.MIN_VALUE}) : below(Math.max(1, most)); }

    private void act() {
        int k = below(20);
        if (k < 7) {
            int n = chance(40) ? 1 + below(5) : edgy(51);
            same("steps(" + n + ")", () -> desk.steps(n), () -> oracle.steps(n));
        } else if (k < 14) {
            int s = edgy(3);
            int n = chance(80) ? below(6) : random.nextInt();
            same("give(" + s + ", " + n + ")", () -> desk.give(s, n), () -> oracle.give(s, n));
        } else if (k < 16) {
            int times = chance(2) ? 45 : 1;
            for (int i = 0; i < times; i++) same("undo()", desk::undo, oracle::undo);
        } else if (k == 16) {
            same("image()", () -> { desk.image(); return 0; }, () -> { oracle.image(); return 0; });
        } else if (k == 17) {
            if (chance(30)) same("restore()", () -> desk.restore() ? 1 : 0, () -> oracle.restore() ? 1 : 0);
        } else {
            int n = edgy(oracle.count(1) + 1);
            same("seek(" + n + ")", () -> desk.seek(n), () -> oracle.seek(n));
        }
    }

    private void look() {
        int w = edgy(3);
        int c = chance(70) ? below(4) : edgy(16);
        int t = edgy(Math.max(1, oracle.count(0)));
        int i = edgy(chance(60) ? 6 : 16);
        int n = chance(70) ? below(40) : edgy(401);
        int v = chance(80) ? below(6) : random.nextInt();
        switch (below(24)) {
            case 0: case 1: case 2: { int a = edgy(18); same("count(" + a + ")", () -> desk.count(a), () -> oracle.count(a)); break; }
            case 3: { int a = edgy(4); same("set(" + a + ")", () -> desk.set(a), () -> oracle.set(a)); break; }
            case 4: { int a = edgy(Math.max(1, oracle.count(4))); same("switched(" + a + ", " + w + ")", () -> desk.switched(a, w), () -> oracle.switched(a, w)); break; }
            case 5: { int a = edgy(3); same("input(" + a + ", " + i + ")", () -> desk.input(a, i), () -> oracle.input(a, i)); break; }
            case 6: { int a = edgy(Math.max(1, oracle.count(6))); same("digest(" + a + ")", () -> desk.digest(a), () -> oracle.digest(a)); break; }
            case 7: { int a = edgy(8); same("snapshot(" + a + ")", () -> desk.snapshot(a), () -> oracle.snapshot(a)); break; }
            case 8: same("cell(" + c + ")", () -> desk.cell(c), () -> oracle.cell(c)); break;
            case 9: { int a = edgy(8); same("thread(" + t + ", " + a + ")", () -> desk.thread(t, a), () -> oracle.thread(t, a)); break; }
            case 10: { int a = edgy(4); same("lock(" + a + ")", () -> desk.lock(a), () -> oracle.lock(a)); break; }
            case 11: same("mark()", desk::mark, oracle::mark); break;
            case 12: same("back(" + t + ", " + i + ")", () -> desk.back(t, i), () -> oracle.back(t, i)); break;
            case 13: same("on(" + t + ", " + i + ")", () -> desk.on(t, i), () -> oracle.on(t, i)); break;
            case 14: same("last(" + c + ", " + w + ")", () -> desk.last(c, w), () -> oracle.last(c, w)); break;
            case 15: same("held(" + c + ")", () -> desk.held(c), () -> oracle.held(c)); break;
            case 16: same("firstRead(" + c + ")", () -> desk.firstRead(c), () -> oracle.firstRead(c)); break;
            case 17: same("races(" + w + ")", () -> desk.races(w), () -> oracle.races(w)); break;
            case 18: { int a = edgy(Math.max(1, oracle.races(0))); same("race(" + a + ", " + w + ")", () -> desk.race(a, w), () -> oracle.race(a, w)); break; }
            case 19: same("guards(" + c + ")", () -> desk.guards(c), () -> oracle.guards(c)); break;
            case 20: same("hot(" + i + ", " + w + ")", () -> desk.hot(i, w), () -> oracle.hot(i, w)); break;
            case 21: lookAtAltered(w, i, t, v); break;
            case 22: { int a = edgy(3); same("matters(" + a + ")", () -> desk.matters(a), () -> oracle.matters(a)); break; }
            default: lookAtTrials(n); break;
        }
    }

    private void lookAtAltered(int w, int i, int t, int v) {
        int how = edgy(6);
        int which = how <= 1 ? edgy(Math.max(1, oracle.count(4))) : how == 5 ? edgy(16) : i;
        int number = how == 0 ? t : v;
        same("diverged(" + how + ", " + which + ", " + number + ", " + w + ")",
            () -> desk.diverged(how, which, number, w), () -> oracle.diverged(how, which, number, w));
    }

    private void lookAtTrials(int n) {
        int w = edgy(2);
        if (chance(50)) same("outcomes(" + n + ", " + w + ")", () -> desk.outcomes(n, w), () -> oracle.outcomes(n, w));
        else same("toSpare(" + n + ", " + w + ")", () -> desk.toSpare(n, w), () -> oracle.toSpare(n, w));
    }
}
