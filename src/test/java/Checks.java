import java.nio.charset.StandardCharsets;
import java.util.NoSuchElementException;
import java.util.function.IntUnaryOperator;
import java.util.function.LongSupplier;

/** What the tests by hand have in common: calls, and the answers that are due. */
abstract class Checks {
    static final long MISSING = Long.MIN_VALUE;
    static final long ILLEGAL = Long.MIN_VALUE + 1;
    static final long BY_THE_MACHINE = Long.MIN_VALUE + 2;
    static final int LEAST = Integer.MIN_VALUE;
    static final int MOST = Integer.MAX_VALUE;
    static final String SIX_SKIPS = "thread skip,skip,skip,skip,skip,skip;";
    static final String LOOP = "thread a:jump a;";
    private static int wrong = 0;
    private static String about = "";

    /** Which promise or sentence of the document the next answers are about. */
    static void about(String words) { about = words; }

    private static long answer(LongSupplier call) {
        try {
            return call.getAsLong();
        } catch (RuntimeException e) {
            if (e.getClass() == NoSuchElementException.class) return MISSING;
            return e.getClass() == IllegalArgumentException.class ? ILLEGAL : BY_THE_MACHINE;
        }
    }

    private static String told(long answer) {
        if (answer == MISSING) return "throws.NoSuchElementException";
        if (answer == ILLEGAL) return "throws.IllegalArgumentException";
        return answer == BY_THE_MACHINE ? "throws another one" : String.valueOf(answer);
    }

    private static void wrong(String call, String was, String want) {
        wrong++;
        System.out.println(about + ": " + call + " answered " + was + ", due is " + want);
    }

    static void due(String call, LongSupplier got, long want) {
        long was = answer(got);
        if (was != want) wrong(call, told(was), told(want));
    }

    static void missing(String call, LongSupplier got) { due(call, got, MISSING); }

    static void illegal(String call, LongSupplier got) { due(call, got, ILLEGAL); }

    /** The call is refused for each of these, for the least and for the greatest int. */
    static void missingFor(String call, IntUnaryOperator got, int... numbers) {
        for (int number : numbers) missing(call + " of " + number, () -> got.applyAsInt(number));
        missing(call + " of the least", () -> got.applyAsInt(LEAST));
        missing(call + " of the greatest", () -> got.applyAsInt(MOST));
    }

    static void same(String what, String was, String want) {
        if (!was.equals(want)) wrong(what, was, want);
    }

    static void finish(String fine) {
        System.out.println(wrong == 0 ? fine : wrong + " answers are not as due");
        if (wrong != 0) System.exit(1);
    }

    /** The bytes go onto the tape; blanks make the last twenty whole. */
    static void put(RecordDesk x, String text) {
        byte[] bytes = text.getBytes(StandardCharsets.ISO_8859_1);
        for (int from = 0; from < bytes.length; from += 20) {
            int[] w = new int[5];
            for (int i = 0; i < 20; i++) {
                w[i / 4] = w[i / 4] << 8 | (from + i < bytes.length ? bytes[from + i] & 255 : 32);
            }
            x.feed(w[0], w[1], w[2], w[3], w[4]);
        }
    }

    static int told(RecordDesk x, String text) {
        put(x, text);
        return x.program(text.length());
    }

    static RecordDesk desk(String text) {
        RecordDesk x = new RecordDesk();
        due("program of " + text, () -> told(x, text), 0);
        return x;
    }

    static RecordDesk ran(String text, int steps) {
        RecordDesk x = desk(text);
        due("steps of " + text, () -> x.steps(steps), steps);
        return x;
    }

    /** No more than so many STEPS can be done now. */
    static void rests(RecordDesk x, int steps) {
        due("steps(50)", () -> x.steps(50), steps);
    }

    /** A 'read' that waits for its INPUT makes an order of threads that no draw can change. */
    static void restsBehind(RecordDesk x, int source, int number, int steps) {
        x.give(source, number);
        rests(x, steps);
    }

    static String times(String part, int many) { return part.repeat(many); }

    /** A TEXT alone: its FAULT (0 without) and where that is. */
    static void text(String text, int code, int place) {
        RecordDesk x = new RecordDesk();
        due("program of " + text, () -> told(x, text), code);
        due("fault of " + text, x::fault, place);
        due("status of " + text, () -> x.count(16), code == 0 ? 0 : 1);
    }

    /** DIVERGED, what 0, 1 and 2. */
    static void diverged(RecordDesk x, int how, int i, int number, int... all) {
        for (int what = 0; what < 3; what++) {
            int w = what;
            due("diverged(" + how + ", " + i + ", " + number + ", " + what + ")", () -> x.diverged(how, i, number, w), all[what]);
        }
    }

    /** The DIGEST of CELLS that are all 0 but one, and of what stands behind them. */
    static int digestOf(int cell, int value, int... behind) {
        int digest = 7;
        for (int i = 0; i < 16; i++) {
            digest = digest * 31 + (i == cell ? value : 0);
        }
        for (int number : behind) {
            digest = digest * 31 + number;
        }
        return digest;
    }

    /** The first DRAWS of a SEED, ahead of their MOD. */
    static int[] draws(int seed, int many) {
        int[] all = new int[many];
        long from = seed;
        for (int i = 0; i < many; i++) {
            from = (from * 1103515245L + 12345L) & 0xffffffffL;
            all[i] = (int) (from >> 16 & 0x7fff);
        }
        return all;
    }

    /** CURRENT, LEFT and SWITCHES behind n STEPS of threads that can always go: by the draws alone. */
    static int[] loops(int seed, int quantum, int threads, int n) {
        int[] d = draws(seed, 2 * n);
        int used = 0;
        int left = 0;
        int current = -1;
        int switches = 0;
        for (int step = 0; step < n; step++) {
            if (left == 0) {
                int next = d[used] % threads;
                left = d[used + 1] % quantum + 1;
                used += 2;
                if (next != current) switches++;
                current = next;
            }
            left--;
        }
        return new int[] {current, left, switches};
    }

    /** Nearly all that a desk of a short run tells; refused calls must leave it as it is. */
    static String all(RecordDesk x) {
        StringBuilder all = new StringBuilder();
        for (int i = 0; i < 16; i++) all.append(x.count(i)).append(' ');
        for (int i = 0; i < 4; i++) all.append(x.set(i)).append(' ');
        int switches = x.count(4);
        for (int i = 0; i < switches; i++) {
            all.append('|').append(x.switched(i, 0)).append(' ').append(x.switched(i, 1)).append(' ').append(x.switched(i, 2));
        }
        int digests = x.count(6);
        for (int i = 0; i < digests; i++) all.append('|').append(x.digest(i));
        int snapshots = x.count(9);
        for (int i = 0; i < snapshots; i++) all.append('|').append(x.snapshot(i));
        int hot = x.hot(-1, 0);
        for (int i = 0; i < hot; i++) all.append('|').append(x.hot(i, 0)).append(' ').append(x.hot(i, 1)).append(' ').append(x.hot(i, 2));
        for (int i = 0; i < 3; i++) all.append('|').append(x.races(i));
        return all.append('|').append(x.mark()).append('|').append(x.fault()).toString();
    }

    /** Less than all, for many times: an object is used for 512 calls at most. */
    static String brief(RecordDesk x) {
        StringBuilder all = new StringBuilder();
        for (int what : new int[] {1, 2, 3, 4, 5, 6, 7, 8, 9, 11, 12, 13, 14}) all.append(x.count(what)).append(' ');
        return all.append('|').append(x.mark()).append('|').append(x.races(0)).toString();
    }
}
