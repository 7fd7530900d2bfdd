/** The document's sentences on STEPS, ACTS and the CURSOR that name a boundary case, in its order. */
public final class RunBoundariesTest extends Checks {
    private static final String READS = "thread a:read 0 0,jump a;";

    public static void main(String[] args) {
        zeroAtFirst();
        wraps();
        placeAndEnd();
        zeroJumps();
        lessJumps();
        unlockOfOthers();
        canGo();
        readsInOrder();
        noStep();
        currentCannotGo();
        drawnAgain();
        draws();
        switchesTell();
        digestsAtPoints();
        digestNumbers();
        snapshotsAtSixteen();
        snapshotThatGoes();
        cost();
        cursor();
        actsAtMostForty();
        fewerSteps();
        thirtyInputs();
        undoneLastFirst();
        undoneOneByOne();
        undoneBehindForty();
        cursorIsTime();
        counts();
        countsAtTime();
        stepsRefused();
        stepsTo400();
        giveRefused();
        undoOfNone();
        wrongLooks();
        threadAtCursor();
        markAsDigest();
        finish("the boundaries of runs hold");
    }

    private static void zeroAtFirst() {
        about("all ints that wrap, 0 first");
        RecordDesk x = desk(times("thread skip;", 4));
        for (int i = 0; i < 16; i++) {
            int cell = i;
            due("cell(" + i + ")", () -> x.cell(cell), 0);
        }
        for (int i = 0; i < 32; i++) {
            int thread = i / 8;
            int what = i % 8;
            due("thread(" + thread + ", " + what + ")", () -> x.thread(thread, what), 0);
        }
        for (int i = 0; i < 4; i++) {
            int lock = i;
            due("lock(" + i + ")", () -> x.lock(lock), -1);
        }
    }

    private static void wraps() {
        about("all ints that wrap");
        RecordDesk x = desk("thread read 0 0,set 1 1,add 0 1,read 2 1,sub 2 1,read 3 2,mul 3 3,store 15 3;");
        x.give(0, MOST);
        x.give(1, LEAST);
        x.give(2, 65537);
        rests(x, 8);
        x.seek(8);
        due("add", () -> x.thread(0, 0), LEAST);
        due("sub", () -> x.thread(0, 2), MOST);
        // 65537 times itself is 2 to the 32nd, and 131073.
        due("mul", () -> x.thread(0, 3), 131073);
        due("store", () -> x.cell(15), 131073);
        RecordDesk y = desk("thread read 0 0,add 0 0,sub 0 0;");
        y.give(0, MOST);
        rests(y, 3);
        y.seek(2);
        due("add of itself", () -> y.thread(0, 0), -2);
        y.seek(3);
        due("sub of itself", () -> y.thread(0, 0), 0);
    }

    private static void place(RecordDesk x, int step, int place, int branches, int ended) {
        x.seek(step);
        due("place behind " + step, () -> x.thread(0, 4), place);
        due("branches behind " + step, () -> x.thread(0, 5), branches);
        due("ended behind " + step, () -> x.thread(0, 6), ended);
    }

    private static void placeAndEnd() {
        about("PLACE (the INSTRUCTION that is next, 0 first; it has ENDED, if there is none) and BRANCHES (0 first)");
        RecordDesk x = ran("thread a:skip,jump b,b:skip,zero 1 c,c:jump d,skip,d:skip;", 6);
        int[][] all = {{0, 0, 0}, {1, 0, 0}, {2, 1, 0}, {3, 1, 0}, {4, 2, 0}, {6, 3, 0}, {7, 3, 1}};
        for (int i = 0; i < all.length; i++) place(x, i, all[i][0], all[i][1], all[i][2]);
        due("count(8)", () -> x.count(8), 1);
        RecordDesk whole = ran("thread skip" + times(",skip", 15) + ";", 16);
        place(whole, 15, 15, 0, 0);
        place(whole, 16, 16, 0, 1);
        RecordDesk loop = ran(LOOP, 50);
        place(loop, 50, 0, 50, 0);
    }

    private static void zeroJumps() {
        about("'zero' (if the REGISTER is 0) .. else one more; BRANCHES is one more either way");
        for (int number : new int[] {0, 1, -1, LEAST, MOST}) {
            RecordDesk x = desk("thread read 3 0,zero 3 a,skip,a:skip;");
            x.give(0, number);
            rests(x, number == 0 ? 3 : 4);
            place(x, 2, number == 0 ? 3 : 2, 1, 0);
        }
    }

    private static void lessJumps() {
        about("'less' (if the first one is less than the other one) .. else one more; BRANCHES is one more either way");
        int[][] all = {{LEAST, MOST, 1}, {MOST, LEAST, 0}, {0, 0, 0}, {-1, 0, 1}, {0, -1, 0}, {0, 1, 1}, {MOST, MOST, 0}};
        for (int[] row : all) {
            RecordDesk x = desk("thread read 0 0,read 3 1,less 0 3 a,skip,a:skip;");
            x.give(0, row[0]);
            x.give(1, row[1]);
            rests(x, row[2] == 1 ? 4 : 5);
            place(x, 3, row[2] == 1 ? 4 : 3, 1, 0);
        }
        RecordDesk self = ran("thread set 1 5,a:less 1 1 a,skip;", 3);
        place(self, 2, 2, 1, 0);
    }

    private static void unlockOfOthers() {
        about("'unlock': nobody has it, if the THREAD has it, else nothing");
        RecordDesk x = ran("thread unlock 0,lock 0,unlock 1,unlock 0,unlock 0;", 5);
        int[] all = {-1, -1, 0, 0, -1, -1};
        for (int i = 0; i < all.length; i++) {
            x.seek(i);
            due("lock(0) behind " + i, () -> x.lock(0), all[i]);
        }
        RecordDesk y = desk("thread lock 3;thread read 0 0,unlock 3,lock 3;");
        rests(y, 1);
        restsBehind(y, 0, 1, 2);
        y.seek(3);
        due("another one's lock", () -> y.lock(3), 0);
        due("its place", () -> y.thread(1, 4), 2);
        due("who has ended has it still", () -> y.count(7), 0);
    }

    private static void canGo() {
        about("It CAN GO, unless it has ENDED, its next one is a 'lock' of a LOCK that anybody has (it, too), or a 'read' of a SOURCE all of whose INPUTS that were GIVEN are read");
        RecordDesk ended = ran("thread skip;", 1);
        due("ended", () -> ended.count(7), 0);
        RecordDesk own = ran("thread lock 0,lock 0;", 1);
        due("its own lock", () -> own.count(7), 0);
        RecordDesk another = ran("thread lock 2,skip;thread lock 2;", 2);
        due("another one's lock", () -> another.count(7), 0);
        RecordDesk free = ran("thread lock 0,lock 1,lock 2,lock 3,unlock 1,lock 1;", 6);
        due("other locks are free", () -> free.count(8), 1);
        RecordDesk x = desk("thread read 0 2,read 0 2;");
        due("nothing is given", () -> x.count(7), 0);
        x.give(0, 1);
        x.give(1, 1);
        due("given to others", () -> x.count(7), 0);
        x.give(2, 1);
        due("given", () -> x.count(7), 1);
        rests(x, 1);
        due("all are read", () -> x.count(7), 0);
        due("refused", () -> x.steps(1), -1);
        restsBehind(x, 2, 1, 1);
        RecordDesk both = desk("thread read 0 0;thread read 0 0;");
        both.give(0, 1);
        due("one for each of two", () -> both.count(7), 2);
        rests(both, 1);
        due("one had it", () -> both.count(7), 0);
    }

    private static void readsInOrder() {
        about("'read': it is the next INPUT of the SOURCE");
        RecordDesk x = desk("thread read 0 0,read 1 1,read 2 0,read 3 2;");
        x.give(0, LEAST);
        x.give(0, MOST);
        x.give(1, -1);
        x.give(2, 0);
        rests(x, 4);
        x.seek(4);
        int[] all = {LEAST, -1, MOST, 0};
        for (int i = 0; i < 4; i++) {
            int what = i;
            due("register " + i, () -> x.thread(0, what), all[i]);
        }
    }

    private static void noStep() {
        about("none: nothing is done, it isn't a STEP");
        RecordDesk x = desk("thread skip,read 0 0,skip;");
        int[] d = draws(1, 4);
        rests(x, 1);
        due("left", () -> x.count(3), d[1] % 3);
        String was = all(x);
        due("refused", () -> x.steps(9), -1);
        same("all", all(x), was);
        x.give(0, 1);
        // LEFT is 1 still, so nothing is drawn; then it is 0.
        due("steps(1)", () -> x.steps(1), 1);
        due("left", () -> x.count(3), 0);
        due("steps(1)", () -> x.steps(1), 1);
        due("left by the next draws", () -> x.count(3), d[3] % 3);
        due("no switch more", () -> x.count(4), 1);
        RecordDesk none = new RecordDesk();
        due("no thread", () -> none.steps(1), -1);
        due("no current", () -> none.count(2), -1);
        due("no left", () -> none.count(3), 0);
    }

    private static void currentCannotGo() {
        about("LEFT is 0, or CURRENT can't go: of those that CAN GO a DRAW of how many there are tells who is next");
        RecordDesk x = desk("quantum 9;thread skip,read 0 0;thread skip,skip;");
        int[] d = draws(1, 4);
        due("steps(1)", () -> x.steps(1), 1);
        due("thread 0 is first", () -> x.count(2), d[0] % 2);
        due("it has some left", () -> x.count(3), d[1] % 9);
        due("steps(1)", () -> x.steps(1), 1);
        due("thread 1 is next", () -> x.count(2), 1);
        due("left is drawn anew", () -> x.count(3), d[3] % 9);
        // Of threads 1 and 3 of four: the second one that can go is thread 3.
        RecordDesk y = desk("seed 3;thread read 0 0;thread skip;thread read 0 0;thread skip;");
        due("steps(1)", () -> y.steps(1), 1);
        due("in their order", () -> y.count(2), draws(3, 1)[0] % 2 == 0 ? 1 : 3);
        RecordDesk z = desk("seed 1;thread read 0 0;thread skip;thread read 0 0;thread skip;");
        due("steps(1)", () -> z.steps(1), 1);
        due("in their order", () -> z.count(2), draws(1, 1)[0] % 2 == 0 ? 1 : 3);
    }

    private static void drawnAgain() {
        about("if that is another one than CURRENT (or there is none), the RECORD has a SWITCH more");
        RecordDesk x = desk("quantum 1;" + LOOP);
        due("no switch at first", () -> x.count(4), 0);
        rests(x, 50);
        due("one thread, one switch", () -> x.count(4), 1);
        missing("switched(1, 0)", () -> x.switched(1, 0));
    }

    /** Threads that can always go, so the draws alone tell who runs. */
    private static void drawn(int seed, int threads, int quantum) {
        RecordDesk x = desk("seed " + seed + ";quantum " + quantum + ";" + times(LOOP, threads));
        for (int step = 1; step <= 40; step++) {
            int[] all = loops(seed, quantum, threads, step);
            due("steps(1)", () -> x.steps(1), 1);
            for (int i = 0; i < 3; i++) {
                int what = i + 2;
                due("count(" + what + ") behind " + step + " by seed " + seed, () -> x.count(what), all[i]);
            }
        }
    }

    private static void draws() {
        about("A DRAW of n: what is drawn from (SEED first) becomes itself times 1103515245 and 12345 (an int that wraps); it is its bits 16 to 30 MOD n then");
        drawn(0, 2, 1);
        drawn(1, 4, 9);
        drawn(2, 3, 2);
        drawn(9999, 4, 5);
        drawn(5000, 1, 7);
    }

    private static void switchesTell() {
        about("a SWITCH more: BRANCHES and PLACE of CURRENT (0, 0 without), and who is next");
        RecordDesk x = desk("thread skip,zero 0 a,skip,a:skip,read 0 0,skip;thread read 0 1,skip;");
        rests(x, 3);
        restsBehind(x, 1, 1, 2);
        restsBehind(x, 0, 1, 2);
        int[][] all = {{0, 0, 0}, {1, 4, 1}, {0, 2, 0}};
        due("count(4)", () -> x.count(4), 3);
        for (int i = 0; i < 9; i++) {
            int k = i / 3;
            int what = i % 3;
            due("switched(" + k + ", " + what + ")", () -> x.switched(k, what), all[k][what]);
        }
        RecordDesk other = desk("thread read 0 0;thread skip;");
        rests(other, 1);
        due("the first one's branches", () -> other.switched(0, 0), 0);
        due("the first one's place", () -> other.switched(0, 1), 0);
        due("the first one's next", () -> other.switched(0, 2), 1);
    }

    private static void digestsAtPoints() {
        about("if that is a multiple of POINT, the RECORD has a DIGEST more");
        for (int point : new int[] {1, 2, 9, 10, 49, 50}) {
            RecordDesk x = desk("point " + point + ";" + LOOP);
            for (int time = 1; time <= 51; time++) {
                int now = time;
                x.steps(1);
                due("digests at " + now + " by point " + point, () -> x.count(6), now / point);
                if (now % point == 0) {
                    due("digest at " + now, () -> x.digest(now / point - 1), digestOf(0, 0, 0, 0, 0, 0, 0, now, -1, -1, -1, -1, 0));
                }
            }
        }
        RecordDesk most = desk("point 1;" + LOOP);
        for (int i = 0; i < 8; i++) rests(most, 50);
        due("400 digests", () -> most.count(6), 400);
        due("the last one", () -> most.digest(399), digestOf(0, 0, 0, 0, 0, 0, 0, 400, -1, -1, -1, -1, 0));
        missing("digest(400)", () -> most.digest(400));
        RecordDesk ten = ran(LOOP, 9);
        due("point 10 without, at 9", () -> ten.count(6), 0);
        ten.steps(1);
        due("point 10 without, at 10", () -> ten.count(6), 1);
    }

    private static void digestNumbers() {
        about("DIGEST: from 7 on .. CELLS, then of each THREAD its REGISTERS, PLACE, BRANCHES, then who has LOCKS 0 to 3 (-1 nobody), CURRENT (-1 none)");
        RecordDesk x = desk("cell 15 -3;thread set 0 1,set 1 2,set 2 3,set 3 4,lock 0,lock 2,zero 1 a,a:skip;thread read 0 0,set 0 9,lock 3,b:jump b;");
        due("mark() at first", x::mark, digestOf(15, -3, 0, 0, 0, 0, 0, 0, 0, 0, 0, 0, 0, 0, -1, -1, -1, -1, -1));
        rests(x, 8);
        x.give(0, MOST);
        due("steps(5)", () -> x.steps(5), 5);
        x.seek(13);
        due("mark() at 13", x::mark, digestOf(15, -3, 1, 2, 3, 4, 8, 1, 9, 0, 0, 0, 3, 2, 0, -1, 0, 1, 1));
    }

    private static void snapshots(RecordDesk x, int... steps) {
        due("count(9)", () -> x.count(9), steps.length);
        for (int i = 0; i < steps.length; i++) {
            int k = i;
            due("snapshot(" + i + ") of " + steps.length, () -> x.snapshot(k), steps[i]);
        }
        missing("snapshot(" + steps.length + ")", () -> x.snapshot(steps.length));
    }

    private static void snapshotsAtSixteen() {
        about("SNAPSHOTS are at STEPS: at 0, and at each multiple of 16 when the TIME is that");
        RecordDesk x = desk(LOOP);
        snapshots(x, 0);
        x.steps(15);
        snapshots(x, 0);
        x.steps(1);
        snapshots(x, 0, 16);
        x.steps(1);
        snapshots(x, 0, 16);
        x.steps(14);
        snapshots(x, 0, 16);
        x.steps(1);
        snapshots(x, 0, 16, 32);
    }

    private static RecordDesk looped(int snaps, int time) {
        RecordDesk x = desk("snaps " + snaps + ";" + LOOP);
        for (int left = time; left > 0; left -= 50) x.steps(Math.min(50, left));
        due("time", () -> x.count(1), time);
        return x;
    }

    private static void snapshotThatGoes() {
        about("if there are more than SNAPS then, one goes, neither the first nor the last: the one whose neighbours are nearest to one another (of like ones the first)");
        snapshots(looped(2, 16), 0, 16);
        snapshots(looped(2, 31), 0, 16);
        snapshots(looped(2, 32), 0, 32);
        snapshots(looped(2, 399), 0, 384);
        snapshots(looped(2, 400), 0, 400);
        snapshots(looped(3, 47), 0, 16, 32);
        // Of 16 and 32 the first; then 48 (its neighbours are 32 apart), then 64 (48 apart), and so on.
        snapshots(looped(3, 48), 0, 32, 48);
        snapshots(looped(3, 64), 0, 32, 64);
        snapshots(looped(3, 80), 0, 32, 80);
        snapshots(looped(3, 400), 0, 32, 400);
        snapshots(looped(8, 112), 0, 16, 32, 48, 64, 80, 96, 112);
        snapshots(looped(8, 127), 0, 16, 32, 48, 64, 80, 96, 112);
        snapshots(looped(8, 128), 0, 32, 48, 64, 80, 96, 112, 128);
        // 48's neighbours are 32 apart, as those of 64 and later ones; 32's are 48 apart.
        snapshots(looped(8, 144), 0, 32, 64, 80, 96, 112, 128, 144);
        RecordDesk x = looped(2, 50);
        x.undo();
        snapshots(x, 0);
        x.steps(20);
        snapshots(x, 0, 16);
    }

    private static void cost() {
        about("COST of a STEP: how many STEPS there are from the last SNAPSHOT at it or ahead of it");
        RecordDesk x = looped(2, 50);
        due("seek(0)", () -> x.seek(0), 0);
        due("seek(1)", () -> x.seek(1), 1);
        due("seek(47)", () -> x.seek(47), 47);
        due("seek(48)", () -> x.seek(48), 0);
        due("seek(49)", () -> x.seek(49), 1);
        due("seek(50)", () -> x.seek(50), 2);
        about("10 the greatest COST of STEPS 0 to TIME");
        due("count(10)", () -> x.count(10), 47);
        due("of none", () -> desk("").count(10), 0);
        due("at 15", () -> looped(4, 15).count(10), 15);
        due("at 16", () -> looped(4, 16).count(10), 15);
        due("at 31", () -> looped(4, 31).count(10), 15);
        due("at 400 by 2", () -> looped(2, 400).count(10), 399);
        due("at 399 by 2", () -> looped(2, 399).count(10), 383);
        // 0, 32, 80 .. at 95: behind 32 there are 47, behind 80 only 15.
        due("at 95 by 3", () -> looped(3, 95).count(10), 47);
    }

    private static void cursor() {
        about("The CURSOR (0 first) is at a STEP, 0 to TIME: what is looked at is as behind so many STEPS of the REPLAY");
        RecordDesk x = desk("quantum 2;point 1;thread a:read 0 0,lock 0,store 0 0,unlock 0,jump a;thread a:load 0 0,add 1 0,jump a;");
        for (int i = 1; i <= 5; i++) x.give(0, i);
        rests(x, 50);
        due("count(11)", () -> x.count(11), 0);
        // What was put down when it ran is what is looked at, forward and back.
        for (int step = 1; step <= 50; step++) {
            int at = step;
            x.seek(at);
            due("mark() at " + at, x::mark, x.digest(at - 1));
        }
        for (int step = 50; step >= 1; step--) {
            int at = step;
            x.seek(at);
            due("mark() back at " + at, x::mark, x.digest(at - 1));
        }
    }

    private static void actsAtMostForty() {
        about("ACTS (at most 40 are kept, the latest ones)");
        for (int many : new int[] {39, 40, 41}) {
            RecordDesk x = desk(LOOP);
            for (int i = 0; i < many; i++) x.steps(1);
            due("count(14)", () -> x.count(14), Math.min(40, many));
            for (int left = Math.min(40, many) - 1; left >= 0; left--) {
                int due = left;
                due("undo()", x::undo, due);
            }
            due("undo() of none", x::undo, -1);
            due("what isn't kept stays done", () -> x.count(1), Math.max(0, many - 40));
        }
        // 30 and 11 that are given: the first one is not kept.
        RecordDesk y = desk("");
        for (int i = 0; i < 41; i++) y.give(i / 30, i);
        due("count(14)", () -> y.count(14), 40);
        for (int i = 0; i < 40; i++) y.undo();
        due("given", () -> y.count(13), 1);
        due("given again", () -> y.give(0, 5), 2);
        due("of the other", () -> y.give(1, 5), 1);
    }

    private static void fewerSteps() {
        about("STEPS are done (1 to 50; fewer where none CAN GO)");
        RecordDesk x = desk(SIX_SKIPS);
        due("steps(50)", () -> x.steps(50), 6);
        due("one act", () -> x.count(14), 1);
        due("status 1", () -> x.count(17), 0);
        due("undo()", x::undo, 0);
        due("time", () -> x.count(1), 0);
        due("steps(5)", () -> x.steps(5), 5);
        due("steps(2)", () -> x.steps(2), 1);
    }

    private static void thirtyInputs() {
        about("an INPUT is GIVEN to a SOURCE (at most 30 to each)");
        RecordDesk x = desk("point 50;" + READS);
        for (int source = 0; source < 3; source++) {
            for (int i = 1; i <= 30; i++) {
                int s = source;
                int number = i;
                due("give " + i + " to " + s, () -> x.give(s, number * 100 + s), number);
            }
        }
        due("count(13)", () -> x.count(13), 90);
        for (int source = 0; source < 3; source++) {
            int s = source;
            due("give 31 to " + s, () -> x.give(s, 1), -1);
        }
        rests(x, 50);
        rests(x, 10);
        due("count(5)", () -> x.count(5), 30);
        due("30 were, though they are read", () -> x.give(0, 1), -1);
        due("the first", () -> x.input(0, 0), 100);
        due("the last", () -> x.input(0, 29), 3000);
        missing("behind the last", () -> x.input(0, 30));
        due("count(13)", () -> x.count(13), 60);
        due("status 1", () -> x.count(17), 4);
    }

    private static void undoneLastFirst() {
        about("They are UNDONE, the last one first");
        RecordDesk x = desk("point 2;quantum 2;thread a:read 0 0,lock 1,store 1 0,unlock 1,jump a;" + LOOP);
        String[] was = new String[9];
        for (int i = 0; i < 8; i++) {
            was[i] = brief(x);
            if (i % 2 == 0) x.give(0, i);
            else x.steps(i * 3);
        }
        was[8] = brief(x);
        for (int i = 7; i >= 0; i--) {
            int left = i;
            due("undo()", x::undo, left);
            same("behind undo() to " + i, brief(x), was[i]);
        }
        // Done again, all is as it was then.
        for (int i = 0; i < 8; i++) {
            if (i % 2 == 0) x.give(0, i);
            else x.steps(i * 3);
        }
        same("done again", brief(x), was[8]);
    }

    private static void undoneOneByOne() {
        about("They are UNDONE: LOCKS, BRANCHES, what is read, and what was looked at last");
        RecordDesk x = desk("point 1;thread lock 0,read 1 0,store 2 1,unlock 0,zero 0 a,skip,a:lock 1,unlock 1;thread read 1 1,lock 0;");
        x.give(0, 9);
        String[] was = new String[7];
        int[] digests = new int[7];
        for (int i = 0; i < 7; i++) {
            x.seek(i);
            was[i] = brief(x);
            x.steps(1);
            digests[i] = x.digest(i);
        }
        for (int i = 6; i >= 0; i--) {
            int step = i;
            // The look at TIME is ahead of where the undoing leads to.
            x.seek(step + 1);
            x.mark();
            x.undo();
            same("undone to " + i, brief(x), was[i]);
            due("it goes on", () -> x.steps(1), 1);
            due("as it did", () -> x.digest(step), digests[step]);
            due("undone again", x::undo, step + 1);
        }
    }

    private static void undoneBehindForty() {
        about("ACTS (at most 40 are kept, the latest ones): LEFT and what is drawn from are those of each");
        RecordDesk x = desk("seed 8;quantum 5;" + times(LOOP, 3));
        for (int i = 0; i < 43; i++) x.steps(1);
        for (int round = 1; round <= 38; round++) {
            int time = 43 - round;
            x.undo();
            x.undo();
            due("steps(1)", () -> x.steps(1), 1);
            int[] all = loops(8, 5, 3, time);
            for (int i = 0; i < 3; i++) {
                int what = i + 2;
                due("count(" + what + ") at " + time, () -> x.count(what), all[i]);
            }
        }
        x.undo();
        x.undo();
        due("the first one that is kept", () -> x.count(1), 3);
        due("its left", () -> x.count(3), loops(8, 5, 3, 3)[1]);
        due("steps(50)", () -> x.steps(50), 50);
        due("left behind these", () -> x.count(3), loops(8, 5, 3, 53)[1]);
        due("switches behind these", () -> x.count(4), loops(8, 5, 3, 53)[2]);
    }

    private static void cursorIsTime() {
        about("the CURSOR is TIME then, if it was more");
        int[][] all = {{9, 10, 9}, {10, 10, 10}, {11, 10, 10}, {20, 10, 10}, {0, 10, 0}};
        for (int[] row : all) {
            RecordDesk x = ran(LOOP, 10);
            x.steps(10);
            x.seek(row[0]);
            x.undo();
            due("time", () -> x.count(1), row[1]);
            due("cursor from " + row[0], () -> x.count(11), row[2]);
            due("what is looked at", () -> x.thread(0, 5), row[2]);
        }
        RecordDesk y = ran(LOOP, 10);
        y.seek(10);
        y.give(0, 1);
        y.undo();
        due("cursor behind a give that is undone", () -> y.count(11), 10);
    }

    private static void counts() {
        about("promise 5: NoSuchElementException: another what");
        RecordDesk x = desk(LOOP);
        missingFor("count", x::count, -1, 18, 19);
        for (int what = 0; what < 18; what++) {
            int w = what;
            int due = what == 0 || what == 7 || what == 9 ? 1 : what == 2 ? -1 : 0;
            due("count(" + w + ")", () -> x.count(w), due);
        }
        about("promise 5: 13 INPUTS that are GIVEN, and not read");
        RecordDesk y = desk("thread read 0 0,read 0 1,read 0 0;");
        y.give(0, 1);
        y.give(0, 2);
        y.give(2, 3);
        rests(y, 1);
        due("count(5)", () -> y.count(5), 1);
        due("count(13)", () -> y.count(13), 2);
    }

    private static void countsAtTime() {
        about("promise 5: (All but 11 by how it is at TIME.)");
        RecordDesk x = desk("point 2;thread lock 0,read 0 0,lock 1;thread lock 1,read 0 1,lock 0;" + SIX_SKIPS);
        x.give(0, 1);
        x.give(1, 1);
        rests(x, 10);
        int[] was = new int[18];
        for (int i = 0; i < 18; i++) was[i] = x.count(i);
        due("the ring", () -> x.count(12), 3);
        for (int step : new int[] {10, 5, 0}) {
            x.seek(step);
            for (int i = 0; i < 18; i++) {
                int what = i;
                due("count(" + i + ") at " + step, () -> x.count(what), i == 11 ? step : was[i]);
            }
        }
    }

    private static void stepsRefused() {
        about("promise 7: NONE (STATUS 1): not 1 to 50 .. none CAN GO");
        RecordDesk x = ran(LOOP, 7);
        x.seek(3);
        String was = all(x);
        int refused = 0;
        for (int many : new int[] {0, -1, 51, LEAST, MOST, MOST - 6}) {
            refused++;
            int due = refused;
            due("steps(" + many + ")", () -> x.steps(many), -1);
            due("status 1", () -> x.count(17), due);
        }
        same("all", all(x), was);
        due("status 0", () -> x.count(16), 0);
        RecordDesk none = desk("thread read 0 0;");
        due("none can go", () -> none.steps(1), -1);
        due("none can go, and too many", () -> none.steps(51), -1);
        due("status 1, one for each call", () -> none.count(17), 2);
        due("no act", () -> none.count(14), 0);
        due("steps(1)", () -> desk(LOOP).steps(1), 1);
        due("steps(50)", () -> desk(LOOP).steps(50), 50);
    }

    private static void stepsTo400() {
        about("promise 7: NONE (STATUS 1): TIME and many are above 400");
        RecordDesk x = looped(4, 351);
        due("steps(50) to 401", () -> x.steps(50), -1);
        due("time", () -> x.count(1), 351);
        due("steps(49) to 400", () -> x.steps(49), 49);
        due("steps(1) to 401", () -> x.steps(1), -1);
        due("status 1", () -> x.count(17), 2);
        due("seek(400)", () -> x.seek(400), 0);
        missing("seek(401)", () -> x.seek(401));
        due("branches", () -> x.thread(0, 5), 400);
        x.undo();
        due("steps(49) again", () -> x.steps(49), 49);
        // It is refused by what is asked for, though fewer could be done.
        RecordDesk y = desk("thread a:jump a;thread read 0 0;");
        for (int i = 0; i < 8; i++) y.steps(i < 7 ? 50 : 40);
        due("steps(11) at 390", () -> y.steps(11), -1);
        due("steps(10) at 390", () -> y.steps(10), 10);
    }

    private static void giveRefused() {
        about("promise 8: NONE (STATUS 1): no such SOURCE, 30 were");
        RecordDesk x = ran(LOOP, 3);
        String was = all(x);
        for (int source : new int[] {-1, 3, LEAST, MOST}) due("give(" + source + ", 1)", () -> x.give(source, 1), -1);
        same("all", all(x), was);
        due("status 1", () -> x.count(17), 4);
        for (int i = 1; i <= 30; i++) x.give(1, i);
        due("the 31st", () -> x.give(1, 31), -1);
        due("status 1", () -> x.count(17), 5);
        due("acts", () -> x.count(14), 31);
        due("undo()", x::undo, 30);
        due("the 30th again", () -> x.give(1, MOST), 30);
        due("another source", () -> x.give(2, LEAST), 1);
    }

    private static void undoOfNone() {
        about("promise 9: NONE: there is none");
        RecordDesk x = desk(LOOP);
        String was = all(x);
        due("undo()", x::undo, -1);
        same("all", all(x), was);
        due("status 1", () -> x.count(17), 0);
        x.steps(51);
        x.give(3, 0);
        due("what was refused isn't kept", x::undo, -1);
        x.steps(1);
        due("undo()", x::undo, 0);
        due("undo()", x::undo, -1);
    }

    private static void wrongLooks() {
        RecordDesk x = desk("point 2;" + READS + "thread skip;");
        x.give(0, 5);
        x.give(0, 6);
        rests(x, 5);
        String was = all(x);
        int switches = x.count(4);
        about("promise 10: NoSuchElementException: there is none, another what");
        missingFor("switched", i -> x.switched(i, 0), -1, switches);
        missingFor("switched(0, what)", what -> x.switched(0, what), -1, 3);
        about("promise 11: NoSuchElementException: there is none, no such SOURCE");
        missingFor("input(0, i)", i -> x.input(0, i), -1, 2, 30);
        missingFor("input(1, i)", i -> x.input(1, i), -1, 0);
        missingFor("input(source, 0)", source -> x.input(source, 0), -1, 1, 2, 3);
        about("promise 12: NoSuchElementException: there is none");
        due("digest(1)", () -> x.digest(1) == 0 ? 0 : 1, 1);
        missingFor("digest", x::digest, -1, 2);
        about("promise 13: NoSuchElementException: there is none");
        missingFor("snapshot", x::snapshot, -1, 1);
        about("promise 14: NoSuchElementException: not 0 to TIME");
        missingFor("seek", x::seek, -1, 6);
        about("promise 15: NoSuchElementException: no such CELL");
        missingFor("cell", x::cell, -1, 16);
        about("promise 16: NoSuchElementException: no such THREAD, another what");
        missingFor("thread(thread, 0)", thread -> x.thread(thread, 0), -1, 2, 3, 4);
        missingFor("thread(1, what)", what -> x.thread(1, what), -1, 8);
        about("promise 17: NoSuchElementException: no such LOCK");
        missingFor("lock", x::lock, -1, 4);
        about("promises 10 to 17: refused, nothing changes");
        same("all", all(x), was);
        due("status 0", () -> x.count(16), 0);
        due("status 1", () -> x.count(17), 0);
    }

    private static void threadAtCursor() {
        about("promise 16: a REGISTER (what 0 to 3), PLACE (4), BRANCHES (5), whether it has ENDED (6), whether it is CURRENT (7)");
        RecordDesk x = desk("thread set 0 1,set 1 2,set 2 3,set 3 4,zero 0 a,a:skip;thread read 0 0,set 3 9;");
        rests(x, 6);
        restsBehind(x, 0, 7, 2);
        int[][] all = {{1, 2, 3, 4, 6, 1, 1, 0}, {7, 0, 0, 9, 2, 0, 1, 1}};
        x.seek(8);
        for (int i = 0; i < 16; i++) {
            int thread = i / 8;
            int what = i % 8;
            due("thread(" + thread + ", " + what + ") at 8", () -> x.thread(thread, what), all[thread][what]);
        }
        x.seek(0);
        due("no current at 0", () -> x.thread(0, 7) + x.thread(1, 7), 0);
        x.seek(6);
        due("current at 6", () -> x.thread(0, 7), 1);
        due("not yet current at 6", () -> x.thread(1, 7), 0);
        x.seek(7);
        due("current at 7", () -> x.thread(1, 7), 1);
        due("not ended at 7", () -> x.thread(1, 6), 0);
    }

    private static void markAsDigest() {
        about("promise 18: At the CURSOR: the DIGEST as it would be");
        RecordDesk x = ran("point 7;" + SIX_SKIPS + SIX_SKIPS, 7);
        x.seek(7);
        due("mark() at a point", x::mark, x.digest(0));
        x.seek(0);
        due("mark() at 0", x::mark, digestOf(0, 0, 0, 0, 0, 0, 0, 0, 0, 0, 0, 0, 0, 0, -1, -1, -1, -1, -1));
    }
}
