/** The document's sentences on what is found in the RECORD that name a boundary case, in its order. */
public final class LookBoundariesTest extends Checks {
    public static void main(String[] args) {
        back();
        on();
        last();
        held();
        firstRead();
        orderOfOneThread();
        orderByUnlock();
        orderByWhoHasIt();
        orderFromOneToTheNext();
        racesOfTwo();
        raceByLaterThenEarlier();
        couples();
        racesFoundAgain();
        guards();
        guardsOfTheDoer();
        hot();
        ringOfOne();
        ringOfMany();
        noRing();
        divergedSwitchToAnother();
        divergedSwitchNotThere();
        divergedInput();
        divergedCell();
        divergedBehindHowMany();
        divergedDigest();
        stuckWithoutCurrent();
        stuckAtTheEnd();
        stuckAtALock();
        stuckWithoutInput();
        stuckFewerThanTime();
        divergedRefused();
        matters();
        mattersByOneMore();
        outcomes();
        outcomesFromTheBeginning();
        toSpare();
        trialsRefused();
        status();
        imageKeeps();
        restoreBehindAnotherCourse();
        imageInPlaceOfAnother();
        restoreOfNone();
        looksChangeNothing();
        finish("the boundaries of looks hold");
    }

    private static void cursor(RecordDesk x, int step) {
        due("cursor", () -> x.count(11), step);
    }

    private static void back() {
        about("promise 19: BACK: the last STEP (1 on), up to the CURSOR .. the CURSOR is that STEP less 1 .. NONE: none, the CURSOR stays");
        RecordDesk x = ran("thread skip,a:skip,jump a,skip;", 9);
        due("back at 0", () -> x.back(0, 0), -1);
        cursor(x, 0);
        x.seek(1);
        due("back to the first one", () -> x.back(0, 0), 1);
        cursor(x, 0);
        x.seek(9);
        due("the STEP of the cursor itself", () -> x.back(0, 2), 9);
        cursor(x, 8);
        due("not the one behind it", () -> x.back(0, 2), 7);
        cursor(x, 6);
        due("never done", () -> x.back(0, 3), -1);
        cursor(x, 6);
        x.seek(2);
        due("done behind the cursor alone", () -> x.back(0, 2), -1);
        cursor(x, 2);
        about("promise 19: NoSuchElementException: no such THREAD, INSTRUCTION");
        missingFor("back(thread, 0)", thread -> x.back(thread, 0), -1, 1, 4);
        missingFor("back(0, instruction)", instruction -> x.back(0, instruction), -1, 4, 16);
        cursor(x, 2);
        RecordDesk y = desk("thread skip;thread read 0 0,skip;");
        rests(y, 1);
        restsBehind(y, 0, 1, 2);
        y.seek(3);
        due("of another thread", () -> y.back(0, 0), 1);
        y.seek(3);
        due("of its own", () -> y.back(1, 0), 2);
        missing("no such instruction of it", () -> y.back(0, 1));
        due("though of the other", () -> y.on(1, 1), 3);
    }

    private static void on() {
        about("promise 20: ON: the first one behind it .. the CURSOR is that STEP .. NONE: none, the CURSOR stays");
        RecordDesk x = ran("thread skip,a:skip,jump a,skip;", 9);
        due("the first STEP", () -> x.on(0, 0), 1);
        cursor(x, 1);
        due("not the cursor's own", () -> x.on(0, 0), -1);
        cursor(x, 1);
        x.seek(8);
        due("up to TIME", () -> x.on(0, 2), 9);
        cursor(x, 9);
        due("none behind TIME", () -> x.on(0, 1), -1);
        cursor(x, 9);
        x.seek(0);
        due("never done", () -> x.on(0, 3), -1);
        cursor(x, 0);
        x.steps(1);
        x.undo();
        x.seek(9);
        due("undone", () -> x.on(0, 1), -1);
        about("promise 20: NoSuchElementException: no such THREAD, INSTRUCTION");
        missingFor("on(thread, 0)", thread -> x.on(thread, 0), -1, 1, 4);
        missingFor("on(0, instruction)", instruction -> x.on(0, instruction), -1, 4, 16);
        cursor(x, 9);
    }

    private static void last(RecordDesk x, int cell, int... all) {
        for (int what = 0; what < 3; what++) {
            int w = what;
            due("last(" + cell + ", " + what + ")", () -> x.last(cell, w), all[what]);
        }
    }

    private static void last() {
        about("promise 21: LAST of a CELL: the last STEP, up to the CURSOR, that did a 'store' into it; NONE");
        RecordDesk x = desk("thread store 0 0,load 0 0,store 15 0;thread read 0 0,store 0 0,store 0 0;");
        rests(x, 3);
        restsBehind(x, 0, 8, 3);
        last(x, 0, -1, -1, -1);
        x.seek(1);
        last(x, 0, 1, 0, 0);
        last(x, 15, -1, -1, -1);
        x.seek(4);
        last(x, 0, 1, 0, 0);
        last(x, 15, 3, 0, 2);
        x.seek(5);
        last(x, 0, 5, 1, 1);
        x.seek(6);
        last(x, 0, 6, 1, 2);
        last(x, 1, -1, -1, -1);
        about("promise 21: NoSuchElementException: no such CELL, another what");
        missingFor("last(cell, 0)", cell -> x.last(cell, 0), -1, 16);
        missingFor("last(0, what)", what -> x.last(0, what), -1, 3);
        missingFor("last(1, what) of none", what -> x.last(1, what), -1, 3);
    }

    private static void held() {
        about("promise 22: LAST of a CELL: what it held ahead of that STEP");
        RecordDesk x = ran("cell 0 -5;thread set 0 4,store 0 0,set 0 6,store 0 0,store 0 0,store 1 0;", 6);
        missing("none at 0", () -> x.held(0));
        x.seek(1);
        missing("none at 1", () -> x.held(0));
        x.seek(2);
        due("what is told first", () -> x.held(0), -5);
        x.seek(4);
        due("what was stored", () -> x.held(0), 4);
        x.seek(5);
        due("the same stored again", () -> x.held(0), 6);
        cursor(x, 5);
        due("the cell at the cursor", () -> x.cell(0), 6);
        missing("stored behind the cursor alone", () -> x.held(1));
        x.seek(6);
        due("0 first", () -> x.held(1), 0);
        about("promise 22: NoSuchElementException: no such CELL, there is none");
        missing("never stored", () -> x.held(15));
        missingFor("held", x::held, -1, 16);
    }

    private static void firstRead() {
        about("promise 23: FIRST READ: the first STEP behind the CURSOR, up to TIME, that did a 'load' of it, if no 'store' into it comes ahead of that");
        RecordDesk x = ran("thread load 0 1,store 1 0,load 0 1,load 0 1,store 2 0,skip;", 4);
        due("behind 0", () -> x.firstRead(1), 1);
        x.seek(1);
        due("a store comes ahead", () -> x.firstRead(1), -1);
        x.seek(2);
        due("behind the store", () -> x.firstRead(1), 3);
        x.seek(3);
        due("the last one", () -> x.firstRead(1), 4);
        x.seek(4);
        due("none behind TIME", () -> x.firstRead(1), -1);
        due("never", () -> x.firstRead(15), -1);
        x.steps(1);
        x.seek(0);
        due("stored alone", () -> x.firstRead(2), -1);
        about("promise 23: NoSuchElementException: no such CELL");
        missingFor("firstRead", x::firstRead, -1, 16);
    }

    private static void races(RecordDesk x, int many, int cells, int couples) {
        due("races(0)", () -> x.races(0), many);
        due("races(1)", () -> x.races(1), cells);
        due("races(2)", () -> x.races(2), couples);
    }

    private static void race(RecordDesk x, int i, int... all) {
        for (int what = 0; what < 3; what++) {
            int w = what;
            due("race(" + i + ", " + what + ")", () -> x.race(i, w), all[what]);
        }
    }

    private static void orderOfOneThread() {
        about("a STEP is ahead of later ones of its THREAD");
        races(ran("thread store 0 0,store 0 0,load 0 0,store 0 0;", 4), 0, 0, 0);
        // What another one did in between changes nothing of that.
        RecordDesk x = desk("thread store 0 0,read 0 0,load 0 0;thread read 1 1,store 1 0;");
        rests(x, 1);
        restsBehind(x, 1, 1, 2);
        restsBehind(x, 0, 1, 2);
        races(x, 0, 0, 0);
    }

    private static void orderByUnlock() {
        about("an 'unlock' of later 'locks' of that LOCK");
        RecordDesk ordered = desk("thread lock 1,store 0 0,unlock 1;thread read 1 0,lock 1,load 0 0;");
        rests(ordered, 3);
        restsBehind(ordered, 0, 1, 3);
        races(ordered, 0, 0, 0);
        RecordDesk another = desk("thread lock 1,store 0 0,unlock 1;thread read 1 0,lock 2,load 0 0;");
        rests(another, 3);
        restsBehind(another, 0, 1, 3);
        race(another, 0, 2, 6, 0);
        races(another, 1, 1, 1);
        RecordDesk aheadOfLock = desk("thread lock 1,store 0 0,unlock 1;thread read 1 0,load 0 0,lock 1;");
        rests(aheadOfLock, 3);
        restsBehind(aheadOfLock, 0, 1, 3);
        race(aheadOfLock, 0, 2, 5, 0);
        RecordDesk behindUnlock = desk("thread lock 1,unlock 1,store 0 0;thread read 1 0,lock 1,load 0 0;");
        rests(behindUnlock, 3);
        restsBehind(behindUnlock, 0, 1, 3);
        race(behindUnlock, 0, 3, 6, 0);
        // The 'lock' is ahead of no other 'lock', and an 'unlock' of no other 'unlock'.
        RecordDesk noLock = desk("thread store 0 0,lock 1,unlock 1;thread read 1 0,unlock 1,load 0 0;");
        rests(noLock, 3);
        restsBehind(noLock, 0, 1, 3);
        race(noLock, 0, 1, 6, 0);
        // Two locks later ones of it, too: the second 'lock' is behind both unlocks.
        RecordDesk later = desk("thread lock 1,store 0 0,unlock 1;thread read 1 0,lock 1,unlock 1;thread read 1 1,lock 1,store 0 0;");
        rests(later, 3);
        restsBehind(later, 0, 1, 3);
        restsBehind(later, 1, 1, 3);
        races(later, 0, 0, 0);
    }

    private static void orderByWhoHasIt() {
        about("an 'unlock' (by who has the LOCK)");
        RecordDesk nobody = desk("thread store 0 0,unlock 1;thread read 1 0,lock 1,load 0 0;");
        rests(nobody, 2);
        restsBehind(nobody, 0, 1, 3);
        race(nobody, 0, 1, 5, 0);
        // Thread 0 has it; thread 1 unlocks in vain; thread 0 unlocks, and thread 2 locks.
        RecordDesk another = desk("thread lock 1,read 0 0,unlock 1;thread read 1 1,store 0 0,unlock 1;thread read 1 2,lock 1,load 0 0;");
        rests(another, 1);
        restsBehind(another, 1, 1, 3);
        restsBehind(another, 0, 1, 2);
        restsBehind(another, 2, 1, 3);
        race(another, 0, 3, 9, 0);
        races(another, 1, 1, 1);
        RecordDesk twice = desk("thread lock 1,unlock 1,store 0 0,unlock 1;thread read 1 0,lock 1,load 0 0;");
        rests(twice, 4);
        restsBehind(twice, 0, 1, 3);
        race(twice, 0, 3, 7, 0);
    }

    private static void orderFromOneToTheNext() {
        about("and so on from one to the next");
        String text = "thread lock 0,store 0 0,unlock 0;thread read 1 0,lock 0,unlock 0,lock 1,unlock 1;"
            + "thread read 1 1,lock 1,lock 2,unlock 2;thread read 1 2,lock 2,store 0 0;";
        RecordDesk x = desk(text);
        rests(x, 3);
        restsBehind(x, 0, 1, 5);
        restsBehind(x, 1, 1, 4);
        restsBehind(x, 2, 1, 3);
        races(x, 0, 0, 0);
        // Without the one between, the chain is torn.
        RecordDesk torn = desk(text.replace("lock 1,unlock 1;", "skip,skip;"));
        rests(torn, 3);
        restsBehind(torn, 0, 1, 5);
        restsBehind(torn, 1, 1, 4);
        restsBehind(torn, 2, 1, 3);
        race(torn, 0, 2, 15, 0);
    }

    private static void racesOfTwo() {
        about("A RACE: two STEPS up to TIME of unlike THREADS, both 'load' or 'store' of one CELL, one at least a 'store'");
        String[] couples = {"load 0 0", "store 0 0", "load 0 1", "store 1 0"};
        for (int i = 0; i < 16; i++) {
            String one = couples[i / 4];
            String two = couples[i % 4];
            RecordDesk x = desk("thread " + one + ";thread read 1 0," + two + ";");
            rests(x, 1);
            restsBehind(x, 0, 1, 2);
            boolean isOneCell = i / 8 == i % 4 / 2;
            int many = isOneCell && (one.startsWith("s") || two.startsWith("s")) ? 1 : 0;
            races(x, many, many, many);
            if (many == 1) race(x, 0, 1, 3, i / 8);
            else missing("race(0, 0)", () -> x.race(0, 0));
            x.undo();
            races(x, 0, 0, 0);
            x.seek(0);
            x.steps(2);
            races(x, many, many, many);
        }
        about("promise 24: NoSuchElementException: another what");
        missingFor("races", desk("")::races, -1, 3);
    }

    private static void raceByLaterThenEarlier() {
        about("promise 25: the i-th RACE (0 on; by its later STEP, then by the earlier one)");
        // 1 and 2 store; 4 loads cell 1, 5 stores cell 0; 7 loads cell 0 by a third one.
        RecordDesk x = desk("thread store 0 0,store 1 0;thread read 1 0,load 0 1,store 0 0;thread read 1 1,load 0 0;");
        rests(x, 2);
        restsBehind(x, 0, 1, 3);
        restsBehind(x, 1, 1, 2);
        for (int round = 0; round < 2; round++) {
            races(x, 4, 2, 4);
            race(x, 0, 2, 4, 1);
            race(x, 1, 1, 5, 0);
            race(x, 2, 1, 7, 0);
            race(x, 3, 5, 7, 0);
            // What is undone here is no STEP: the races are the same ones.
            x.give(2, 1);
            x.undo();
        }
        about("promise 25: NoSuchElementException: there is none, another what");
        missingFor("race(i, 0)", i -> x.race(i, 0), -1, 4);
        missingFor("race(0, what)", what -> x.race(0, what), -1, 3);
    }

    private static void couples() {
        about("promise 24: how many unlike couples of INSTRUCTIONS (of the earlier one, of the later one)");
        RecordDesk x = desk("thread a:read 1 0,store 0 0,jump a;thread a:read 1 1,store 0 0,jump a;");
        due("none can go", () -> x.steps(1), -1);
        restsBehind(x, 0, 1, 3);
        races(x, 0, 0, 0);
        restsBehind(x, 1, 1, 3);
        races(x, 1, 1, 1);
        restsBehind(x, 1, 1, 3);
        races(x, 2, 1, 1);
        // The other way round is another couple.
        restsBehind(x, 0, 1, 3);
        races(x, 4, 1, 2);
    }

    private static void racesFoundAgain() {
        about("RACES up to TIME: what was found ahead of other STEPS counts for nothing");
        // 1 and 2 are a race; behind them the lock orders what comes then.
        RecordDesk x = desk("thread store 0 0,read 1 0,lock 1,unlock 1,skip;thread read 1 1,load 0 0,read 1 1,lock 1,unlock 1;");
        rests(x, 1);
        restsBehind(x, 1, 1, 2);
        race(x, 0, 1, 3, 0);
        restsBehind(x, 0, 1, 4);
        races(x, 1, 1, 1);
        restsBehind(x, 1, 1, 3);
        races(x, 1, 1, 1);
        race(x, 0, 1, 3, 0);
        x.give(2, 1);
        x.undo();
        races(x, 1, 1, 1);
        race(x, 0, 1, 3, 0);
        x.undo();
        races(x, 1, 1, 1);
        race(x, 0, 1, 3, 0);
        // Thread 1 has the lock ahead of thread 0: that orders nothing of what thread 0 does.
        RecordDesk y = desk("thread lock 1,unlock 1,read 1 0,load 0 0;thread read 1 1,store 0 0,read 1 1,lock 1,unlock 1;");
        rests(y, 2);
        restsBehind(y, 1, 1, 2);
        y.give(1, 1);
        restsBehind(y, 0, 1, 5);
        races(y, 1, 1, 1);
        y.undo();
        races(y, 0, 0, 0);
        y.steps(50);
        races(y, 1, 1, 1);
        int later = y.race(0, 1);
        due("the earlier one", () -> y.race(0, 0), 4);
        y.give(2, 1);
        y.undo();
        due("the later one again", () -> y.race(0, 1), later);
    }

    private static void guards() {
        about("promise 26: GUARDS of a CELL: LOCKS that the doer had at each 'load', 'store' of it (bits; 15, if there is none)");
        RecordDesk x = desk("thread lock 0,lock 1,lock 2,lock 3,store 0 0,load 0 1,unlock 3,store 1 0,unlock 0,load 0 1,unlock 1,unlock 2,load 0 2;");
        for (int cell : new int[] {0, 15}) due("none yet", () -> x.guards(cell), 15);
        due("none yet of what is next", () -> desk("thread load 0 4;").guards(4), 15);
        due("steps(5)", () -> x.steps(5), 5);
        due("all four", () -> x.guards(0), 15);
        due("steps(1)", () -> x.steps(1), 1);
        due("all four by a load", () -> x.guards(1), 15);
        due("steps(2)", () -> x.steps(2), 2);
        due("without 3", () -> x.guards(1), 7);
        due("steps(2)", () -> x.steps(2), 2);
        due("without 0", () -> x.guards(1), 6);
        rests(x, 3);
        due("none at all", () -> x.guards(2), 0);
        due("cell 1 as it was", () -> x.guards(1), 6);
        x.seek(0);
        due("up to TIME, not to the CURSOR", () -> x.guards(1), 6);
        x.undo();
        due("undone", () -> x.guards(2), 15);
        about("promise 26: NoSuchElementException: no such CELL");
        missingFor("guards", x::guards, -1, 16);
    }

    private static void guardsOfTheDoer() {
        about("GUARDS: LOCKS that the doer had");
        RecordDesk x = desk("thread lock 0,store 0 0;thread read 1 0,lock 1,store 0 0,unlock 0,unlock 1;thread read 1 1,lock 1,store 1 0,unlock 0,store 2 0;");
        rests(x, 2);
        due("by thread 0", () -> x.guards(0), 1);
        restsBehind(x, 0, 1, 5);
        due("by both", () -> x.guards(0), 0);
        restsBehind(x, 1, 1, 5);
        due("by thread 2", () -> x.guards(1), 2);
        due("behind an unlock in vain", () -> x.guards(2), 2);
    }

    private static void hot() {
        about("promise 27: HOT: how many (i NONE; what isn't looked at)");
        RecordDesk none = desk(SIX_SKIPS);
        for (int what : new int[] {-1, 0, 3, LEAST, MOST}) due("hot(NONE, " + what + ")", () -> none.hot(-1, what), 0);
        missing("hot(0, 0) of none", () -> none.hot(0, 0));
        about("HOT: INSTRUCTIONS that STEPS did, in the order in which they were first done");
        RecordDesk x = desk("thread read 1 0,zero 0 b,a:skip,b:jump a;thread skip;");
        rests(x, 1);
        x.give(0, 1);
        due("steps(9)", () -> x.steps(9), 9);
        int[][] all = {{1, 0, 1}, {0, 0, 1}, {0, 1, 1}, {0, 3, 4}, {0, 2, 3}};
        due("hot(NONE)", () -> x.hot(-1, 9), 5);
        for (int i = 0; i < 15; i++) {
            int k = i / 3;
            int what = i % 3;
            due("hot(" + k + ", " + what + ")", () -> x.hot(k, what), all[k][what]);
        }
        x.undo();
        due("undone", () -> x.hot(-1, 0), 1);
        about("promise 27: NoSuchElementException: there is none, another what");
        missingFor("hot(i, 0)", i -> x.hot(i, 0), -2, 1);
        missingFor("hot(0, what)", what -> x.hot(0, what), -1, 3);
        RecordDesk most = desk(times("thread skip" + times(",skip", 15) + ";", 4));
        rests(most, 50);
        rests(most, 14);
        due("all 64", () -> most.hot(-1, 0), 64);
        due("the last one is done once", () -> most.hot(63, 2), 1);
        missing("hot(64, 0)", () -> most.hot(64, 0));
    }

    private static void ringOfOne() {
        about("RING .. one that waits for itself, too");
        RecordDesk x = desk("thread skip;thread read 1 0,lock 3,lock 3;thread read 1 1,lock 3;");
        rests(x, 1);
        due("no ring", () -> x.count(12), 0);
        restsBehind(x, 0, 1, 2);
        due("thread 1", () -> x.count(12), 2);
        restsBehind(x, 1, 1, 1);
        due("who waits for it isn't in it", () -> x.count(12), 2);
        x.undo();
        x.undo();
        x.undo();
        due("undone", () -> x.count(12), 0);
    }

    private static void ringOfMany() {
        about("RING: all that, by this, wait for one another round about (bits)");
        StringBuilder text = new StringBuilder();
        for (int i = 0; i < 4; i++) text.append("thread lock ").append(i).append(",read 1 0,lock ").append((i + 1) % 4).append(';');
        RecordDesk x = desk(text.toString());
        rests(x, 4);
        for (int i = 0; i < 3; i++) {
            restsBehind(x, 0, 1, 1);
            due("one at least still reads", () -> x.count(12), 0);
        }
        restsBehind(x, 0, 1, 1);
        due("all four", () -> x.count(12), 15);
        // Threads 1 and 3 wait for one another, 0 for 1, 2 for 0.
        RecordDesk two = desk("thread lock 0,read 1 0,lock 1;thread lock 1,read 1 0,lock 3;thread lock 2,read 1 0,lock 0;thread lock 3,read 1 0,lock 1;");
        rests(two, 4);
        for (int i = 0; i < 4; i++) two.give(0, 1);
        rests(two, 4);
        due("1 and 3", () -> two.count(12), 10);
        RecordDesk rings = desk("thread lock 0,read 1 0,lock 1;thread lock 1,read 1 0,lock 0;thread lock 2,read 1 0,lock 3;thread lock 3,read 1 0,lock 2;");
        rests(rings, 4);
        for (int i = 0; i < 4; i++) rings.give(0, 1);
        rests(rings, 4);
        due("two rings", () -> rings.count(12), 15);
    }

    private static void noRing() {
        about("RING: a THREAD whose next one is a 'lock' of a LOCK that is had waits for who has it");
        RecordDesk ended = desk("thread lock 0;thread read 1 0,lock 0;");
        rests(ended, 1);
        restsBehind(ended, 0, 1, 1);
        due("who has it has ended", () -> ended.count(12), 0);
        RecordDesk reads = desk("thread lock 0,read 1 1;thread read 1 0,lock 1,lock 0;");
        rests(reads, 1);
        restsBehind(reads, 0, 1, 2);
        due("who has it reads", () -> reads.count(12), 0);
        due("no thread", () -> desk("").count(12), 0);
        due("nobody has it", () -> desk("thread lock 0;").count(12), 0);
    }

    /** Thread 0 has STEPS 1 and 2, thread 1 3 to 5, thread 0 6 and 7; SWITCHES tell (0, 0), (0, 2), (0, 3). */
    private static RecordDesk turned(int point) {
        RecordDesk x = desk("point " + point + ";thread skip,skip,read 0 0,skip;thread read 0 1,skip,skip;");
        rests(x, 2);
        x.give(1, 7);
        due("steps(3)", () -> x.steps(3), 3);
        x.give(0, 8);
        rests(x, 2);
        return x;
    }

    private static void divergedSwitchToAnother() {
        about("DIVERGED how 0: the i-th SWITCH is to another THREAD (number)");
        RecordDesk x = turned(1);
        due("count(4)", () -> x.count(4), 3);
        diverged(x, 0, 0, 0, -1, -1, -1);
        diverged(x, 0, 1, 1, -1, -1, -1);
        diverged(x, 0, 2, 0, -1, -1, -1);
        // Thread 1 first: at PLACE 2 it comes itself, at 3 thread 0 has its four: all is done by 7.
        diverged(x, 0, 0, 1, 1, 0, -1);
        // Thread 0 goes on to itself; at PLACE 3 once more, and has ended behind 4.
        diverged(x, 0, 1, 0, 3, 2, 4);
        // Thread 1 comes behind its end.
        diverged(x, 0, 2, 1, 6, -1, 5);
    }

    private static void divergedSwitchNotThere() {
        about("DIVERGED how 1: it isn't there");
        RecordDesk x = turned(1);
        // Without the first one the second one is taken, as there is no CURRENT: thread 1 first.
        diverged(x, 1, 0, 0, 1, 0, -1);
        diverged(x, 1, 1, 0, 3, 2, 4);
        diverged(x, 1, 2, 0, 6, -1, 5);
        about("DIVERGED how 1: number isn't looked at");
        diverged(x, 1, 2, LEAST, 6, -1, 5);
        diverged(x, 1, 2, MOST, 6, -1, 5);
    }

    private static void divergedInput() {
        about("DIVERGED how 2, 3, 4: the i-th INPUT of SOURCE 0, 1, 2 is number");
        RecordDesk x = desk("point 2;thread read 0 0,read 1 1,read 2 2,read 0 0,read 1 1,read 2 2;");
        for (int i = 0; i < 6; i++) x.give(i % 3, i * 10);
        rests(x, 6);
        for (int i = 0; i < 6; i++) {
            int source = i % 3;
            diverged(x, 2 + source, i / 3, i * 10, -1, -1, -1);
            diverged(x, 2 + source, i / 3, i * 10 + 1, i + 1, i / 2, -1);
            diverged(x, 2 + source, i / 3, LEAST, i + 1, i / 2, -1);
            missing("no third one", () -> x.diverged(2 + source, 2, 0, 0));
        }
    }

    private static void divergedCell() {
        about("DIVERGED how 5: the CELL i holds number at first .. (1 on; also 0 by 5)");
        RecordDesk x = ran("point 1;cell 15 4;thread set 0 4,store 0 0,store 15 0;", 3);
        diverged(x, 5, 15, 4, -1, -1, -1);
        diverged(x, 5, 0, 0, -1, -1, -1);
        diverged(x, 5, 15, 5, 0, 0, -1);
        diverged(x, 5, 0, MOST, 0, 0, -1);
        // At 3, where the DIGEST alone is, CELL 15 is 4 again.
        RecordDesk y = ran("point 3;cell 15 4;thread set 0 4,store 0 0,store 15 0;", 3);
        diverged(y, 5, 15, 5, 0, -1, -1);
        diverged(y, 5, 1, 5, 0, 0, -1);
        about("DIVERGED how 5 at TIME 0");
        diverged(desk("cell 3 1;"), 5, 3, 2, 0, -1, -1);
        diverged(desk("cell 3 1;"), 5, 3, 1, -1, -1, -1);
    }

    private static void divergedBehindHowMany() {
        about("behind how many STEPS first a number of those in DIGEST is another one");
        // The INPUT is read into a REGISTER that is other at once.
        RecordDesk x = desk("point 50;thread skip,read 0 0,sub 0 0,skip;");
        x.give(0, 5);
        rests(x, 4);
        diverged(x, 2, 0, 6, 2, -1, -1);
        // Another one at the last STEP alone.
        RecordDesk y = desk("point 4;thread skip,skip,skip,read 0 0;");
        y.give(0, 5);
        rests(y, 4);
        diverged(y, 2, 0, 6, 4, 0, -1);
        about("(behind the STEP that it can't do, where it is STUCK)");
        RecordDesk z = desk("point 1;thread skip;thread read 0 0,skip;");
        rests(z, 1);
        restsBehind(z, 0, 1, 2);
        diverged(z, 1, 1, 0, 2, -1, 1);
    }

    private static void divergedDigest() {
        about("the first DIGEST in the RECORD (0 on) that is another one at that STEP");
        RecordDesk x = desk("point 2;thread skip,skip,read 0 0,sub 0 0,skip,skip,store 1 0,skip;");
        x.give(0, 5);
        rests(x, 8);
        // Behind 3 the REGISTER is another one, behind 4 it is 0 by both.
        diverged(x, 2, 0, 6, 3, -1, -1);
        RecordDesk y = desk("point 3;thread skip,skip,read 0 0,sub 0 0,skip,skip;");
        y.give(0, 5);
        rests(y, 6);
        diverged(y, 2, 0, 6, 3, 0, -1);
        RecordDesk last = desk("point 3;thread skip,skip,skip,skip,skip,read 0 0;");
        last.give(0, 5);
        rests(last, 6);
        diverged(last, 2, 0, 6, 6, 1, -1);
        RecordDesk none = desk("point 4;thread skip,skip,skip,skip,skip,read 0 0;");
        none.give(0, 5);
        rests(none, 6);
        diverged(none, 2, 0, 6, 6, -1, -1);
        about("(none by those that it doesn't come to)");
        // It is stuck behind 4; the DIGEST at 4 is another one, that at 5 isn't come to.
        String text = "thread read 1 0,zero 1 a,skip,skip,a:skip,skip;";
        for (int point = 1; point <= 6; point++) {
            RecordDesk stuck = desk("point " + point + ";" + text);
            stuck.give(0, 1);
            rests(stuck, 6);
            diverged(stuck, 2, 0, 0, 1, point <= 4 ? 0 : -1, 4);
        }
    }

    private static void stuckWithoutCurrent() {
        about("STUCK: is there no CURRENT");
        RecordDesk x = ran("point 1;thread skip,skip;", 2);
        diverged(x, 1, 0, 0, 1, -1, 0);
    }

    private static void stuckAtTheEnd() {
        about("STUCK: has it ENDED");
        RecordDesk x = desk("point 1;thread skip;thread read 0 0;");
        rests(x, 1);
        restsBehind(x, 0, 1, 1);
        diverged(x, 1, 1, 0, 2, -1, 1);
        diverged(x, 0, 1, 0, 2, -1, 1);
    }

    private static void stuckAtALock() {
        about("STUCK: is its LOCK had by anybody");
        RecordDesk own = desk("point 5;thread lock 0,read 1 0,zero 1 a,unlock 0,a:skip,lock 0;");
        own.give(0, 1);
        rests(own, 6);
        diverged(own, 2, 0, 0, 2, -1, 4);
        RecordDesk another = desk("point 1;thread lock 0,read 1 0,zero 1 a,unlock 0,a:skip;thread read 1 1,lock 0;");
        another.give(0, 1);
        rests(another, 5);
        restsBehind(another, 1, 1, 2);
        diverged(another, 2, 0, 0, 2, 1, 5);
    }

    private static void stuckWithoutInput() {
        about("STUCK: no INPUT left in the RECORD");
        RecordDesk x = desk("point 1;thread read 1 0,zero 1 a,skip,skip,skip,skip,a:read 1 0;");
        x.give(0, 1);
        rests(x, 6);
        diverged(x, 2, 0, 0, 1, 0, 2);
        x.give(0, 2);
        // What is given and not read isn't in the RECORD.
        diverged(x, 2, 0, 0, 1, 0, 2);
        rests(x, 1);
        // Now it is: behind the second read it has ended.
        diverged(x, 2, 0, 0, 1, 0, 3);
    }

    private static void stuckFewerThanTime() {
        about("behind how many STEPS, fewer than TIME, it is STUCK; none");
        // By 0 the thread ends behind 3, by 1 behind 5.
        RecordDesk x = desk("point 50;thread read 1 0,zero 1 a,skip,skip,a:skip;");
        x.give(0, 1);
        due("steps(2)", () -> x.steps(2), 2);
        diverged(x, 2, 0, 0, 1, -1, -1);
        due("steps(1)", () -> x.steps(1), 1);
        diverged(x, 2, 0, 0, 1, -1, -1);
        due("steps(1)", () -> x.steps(1), 1);
        diverged(x, 2, 0, 0, 1, -1, 3);
        rests(x, 1);
        diverged(x, 2, 0, 0, 1, -1, 3);
    }

    private static void divergedRefused() {
        about("promise 28: NoSuchElementException: another what, how, there is no such SWITCH, INPUT, CELL; no such THREAD (how 0)");
        RecordDesk x = turned(2);
        String was = all(x);
        missingFor("what", what -> x.diverged(5, 0, 1, what), -1, 3);
        missingFor("how", how -> x.diverged(how, 0, 0, 0), -1, 6);
        missingFor("switch to another", i -> x.diverged(0, i, 0, 0), -1, 3);
        missingFor("switch not there", i -> x.diverged(1, i, 0, 0), -1, 3);
        missingFor("input of source 0", i -> x.diverged(2, i, 0, 0), -1, 1, 30);
        missingFor("input of source 1", i -> x.diverged(3, i, 0, 0), -1, 1, 30);
        missingFor("input of source 2", i -> x.diverged(4, i, 0, 0), -1, 0, 30);
        missingFor("cell", i -> x.diverged(5, i, 0, 0), -1, 16);
        missingFor("thread", number -> x.diverged(0, 0, number, 0), -1, 2, 3);
        for (int how = 0; how <= 5; how++) {
            int h = how;
            if (how != 4) due("how " + how + " can be", () -> x.diverged(h, 0, 1, 0) < -1 ? 1 : 0, 0);
        }
        same("all", all(x), was);
    }

    private static void matters() {
        about("MATTERS: INPUTS in the RECORD of a SOURCE, by each of which, were it one more alone, CELLS are others at TIME");
        RecordDesk x = desk("thread read 0 0,store 0 0,read 0 0,read 0 1,read 0 0,store 1 0,sub 0 0,store 0 0;");
        for (int i = 0; i < 4; i++) x.give(0, 5);
        x.give(1, 5);
        due("none is read", () -> x.matters(0), 0);
        due("steps(1)", () -> x.steps(1), 1);
        due("read, not stored", () -> x.matters(0), 0);
        due("steps(1)", () -> x.steps(1), 1);
        due("stored", () -> x.matters(0), 1);
        due("steps(4)", () -> x.steps(4), 4);
        due("two of three", () -> x.matters(0), 2);
        rests(x, 2);
        due("one is stored over; the fourth isn't read", () -> x.matters(0), 1);
        due("of source 1", () -> x.matters(1), 0);
        due("of source 2", () -> x.matters(2), 0);
        about("promise 29: NoSuchElementException: no such SOURCE");
        missingFor("matters", x::matters, -1, 3);
        RecordDesk most = desk("thread a:read 0 2,add 1 0,store 0 1,jump a;");
        for (int i = 0; i < 30; i++) most.give(2, i);
        rests(most, 50);
        rests(most, 50);
        rests(most, 20);
        due("all thirty", () -> most.matters(2), 30);
    }

    private static void mattersByOneMore() {
        about("MATTERS .. were it one more alone .. or the REPLAY is STUCK ahead of that");
        // One more than -1 is 0: fewer STEPS, and the thread ends ahead of TIME.
        String text = "thread read 0 0,zero 0 a,skip,a:skip;";
        for (int number : new int[] {-2, -1, 0}) {
            RecordDesk x = desk(text);
            x.give(0, number);
            rests(x, number == 0 ? 3 : 4);
            due("matters by " + number, () -> x.matters(0), number == -1 ? 1 : 0);
        }
        // Up to TIME 3 it isn't stuck: what comes behind counts for nothing.
        RecordDesk y = desk(text);
        y.give(0, -1);
        due("steps(3)", () -> y.steps(3), 3);
        due("not ahead of TIME", () -> y.matters(0), 0);
        about("MATTERS: one more than the greatest wraps");
        RecordDesk z = desk("thread read 0 0,less 0 1 a,store 1 2,skip,skip,a:skip;");
        z.give(0, MOST);
        rests(z, 6);
        due("stuck by the least", () -> z.matters(0), 1);
        about("MATTERS: alone");
        // Either one alone makes the difference another one; both together don't.
        RecordDesk both = desk("thread read 0 0,read 1 0,sub 0 1,store 0 0;");
        both.give(0, 3);
        both.give(0, 3);
        rests(both, 4);
        due("each of both", () -> both.matters(0), 2);
    }

    /** Three threads whose every often-th INSTRUCTION stores a next number into a CELL of their own. */
    private static String storing(int often, int many) {
        StringBuilder text = new StringBuilder("quantum 1;");
        for (int thread = 0; thread < 3; thread++) {
            text.append("thread ");
            for (int i = 1; i <= many; i++) {
                text.append(i % often == 0 ? "store " + thread + " 0" : i % often == 1 ? "set 0 " + (i / often + 1) : "skip");
                text.append(i < many ? "," : ";");
            }
        }
        return text.toString();
    }

    /** What their CELLS hold behind n STEPS, by the draws alone, where none of them ends. */
    private static String stored(int seed, int often, int n) {
        int[] d = draws(seed, 2 * n);
        int[] steps = new int[3];
        for (int i = 0; i < n; i++) steps[d[2 * i] % 3]++;
        return steps[0] / often + " " + steps[1] / often + " " + steps[2] / often;
    }

    private static void outcomes(int often, int n, int many, int least) {
        RecordDesk x = desk("seed 77;" + storing(often, 9));
        due("outcomes(" + n + ", 0)", () -> x.outcomes(n, 0), many);
        due("outcomes(" + n + ", 1)", () -> x.outcomes(n, 1), least);
        java.util.Set<String> unlike = new java.util.HashSet<>();
        int first = -1;
        for (int seed = 6; seed >= 0; seed--) {
            unlike.add(stored(seed, often, n));
            if (!stored(seed, often, n).equals(stored(0, often, n))) first = seed;
        }
        int due = first;
        due("unlike ones by the draws", () -> unlike.size(), many);
        due("the least by the draws", () -> due, least);
        due("SEED 7 would be another one", () -> unlike.contains(stored(7, often, n)) ? 0 : 1, n == 2 ? 0 : 1);
    }

    private static void outcomes() {
        about("OUTCOMES: by SEEDS 0 to 6: how many unlike contents of all CELLS; the least SEED by which these are others than by 0; none");
        // Each STEP is a draw of who: by SEED 6 alone of 0 to 6 one thread has both STEPS.
        outcomes(2, 2, 2, 6);
        // All are unlike: SEED 6 counts, and SEED 7, which would be one more, doesn't.
        outcomes(2, 7, 7, 1);
        // By SEED 7 alone a thread would have six of eight STEPS.
        outcomes(6, 8, 1, -1);
        RecordDesk x = desk("seed 77;" + storing(2, 4));
        due("outcomes(0, 0)", () -> x.outcomes(0, 0), 1);
        due("outcomes(0, 1)", () -> x.outcomes(0, 1), -1);
        due("outcomes(1, 0)", () -> x.outcomes(1, 0), 1);
        due("as many as can be", () -> x.outcomes(12, 0), 1);
        due("as many as can be", () -> x.outcomes(400, 0), 1);
        RecordDesk one = desk("thread set 0 3,store 15 0;");
        due("one thread, one outcome", () -> one.outcomes(400, 0), 1);
        due("none", () -> one.outcomes(400, 1), -1);
        // CELL 15 alone is another one: it is one of all CELLS.
        RecordDesk last = desk("quantum 9;thread set 0 1,store 15 0;thread set 0 2,store 15 0;");
        due("CELL 15 counts", () -> last.outcomes(400, 0), 2);
        due("by SEED 3", () -> last.outcomes(400, 1), 3);
    }

    private static void outcomesFromTheBeginning() {
        about("(From the beginning, as told, with all INPUTS that were GIVEN there at once, n STEPS (0 to 400) or as many as can be:)");
        RecordDesk x = desk("quantum 9;thread read 0 0,store 0 0;thread read 0 0,store 1 0;");
        due("nothing is given", () -> x.outcomes(400, 0), 1);
        due("no switch", () -> x.toSpare(400, 1), 0);
        restsBehind(x, 0, 5, 2);
        restsBehind(x, 0, 6, 2);
        String was = all(x);
        // Who is first has 5, the other one 6: thread 1 is first by SEEDS 3, 4, 5.
        due("one or the other", () -> x.outcomes(400, 0), 2);
        due("by SEED 3", () -> x.outcomes(400, 1), 3);
        // Nobody has stored behind one STEP; behind two by a LEFT of 2 or more one has 5.
        due("one STEP", () -> x.outcomes(1, 0), 1);
        due("two threads, two switches at least", () -> x.toSpare(400, 1), 2);
        same("all", all(x), was);
        // The settings are as told, but for the SEED or QUANTUM that is tried.
        RecordDesk slow = desk("quantum 1;" + SIX_SKIPS + SIX_SKIPS);
        RecordDesk fast = desk("quantum 9;" + SIX_SKIPS + SIX_SKIPS);
        for (int n : new int[] {0, 1, 7, 12, 400}) {
            due("QUANTUM is tried: which", () -> slow.toSpare(n, 0), fast.toSpare(n, 0));
            due("QUANTUM is tried: how many", () -> slow.toSpare(n, 1), fast.toSpare(n, 1));
        }
        RecordDesk some = desk("seed 4;" + times("thread set 0 1,load 1 0,add 1 0,store 0 1;", 3));
        RecordDesk other = desk("seed 5;" + times("thread set 0 1,load 1 0,add 1 0,store 0 1;", 3));
        for (int what = 0; what < 2; what++) {
            int w = what;
            due("SEED is tried", () -> some.outcomes(400, w), other.outcomes(400, w));
        }
    }

    private static void toSpare() {
        about("TO SPARE: the QUANTUM (1 to 9) by which there are fewest SWITCHES (of like ones the least): which; how many");
        for (int seed : new int[] {0, 1, 9999}) {
            RecordDesk x = desk("seed " + seed + ";quantum 3;" + times(LOOP, 3));
            for (int n : new int[] {0, 1, 2, 5, 9, 10, 50, 399, 400}) {
                int best = 1;
                for (int q = 2; q <= 9; q++) {
                    if (loops(seed, q, 3, n)[2] < loops(seed, best, 3, n)[2]) best = q;
                }
                int which = best;
                due("toSpare(" + n + ", 0) by seed " + seed, () -> x.toSpare(n, 0), which);
                due("toSpare(" + n + ", 1) by seed " + seed, () -> x.toSpare(n, 1), loops(seed, which, 3, n)[2]);
            }
        }
        // By LEFTS of 1 there are 3 SWITCHES, by QUANTUM 2 there are 4.
        String unlike = "thread skip;thread skip,skip;thread skip,skip;";
        RecordDesk first = desk("seed 19;" + unlike);
        due("QUANTUM 1", () -> first.toSpare(400, 0), 1);
        due("QUANTUM 1", () -> first.toSpare(400, 1), 3);
        due("QUANTUM 1 when it runs", () -> ran("seed 19;quantum 1;" + unlike, 5).count(4), 3);
        due("QUANTUM 2 when it runs", () -> ran("seed 19;quantum 2;" + unlike, 5).count(4), 4);
        RecordDesk two = desk("seed 0;" + times(LOOP, 2));
        due("QUANTUM 2", () -> two.toSpare(4, 0), 2);
        due("QUANTUM 2", () -> two.toSpare(4, 1), 1);
        RecordDesk nine = desk("seed 1;" + times(LOOP, 2));
        due("QUANTUM 9", () -> nine.toSpare(8, 0), 9);
        due("QUANTUM 9", () -> nine.toSpare(8, 1), 1);
        RecordDesk one = desk("quantum 9;" + LOOP);
        due("all alike: the least", () -> one.toSpare(400, 0), 1);
        due("one", () -> one.toSpare(400, 1), 1);
    }

    private static void trialsRefused() {
        about("promises 30, 31: NoSuchElementException: another what. IllegalArgumentException (behind that): n");
        RecordDesk x = ran(LOOP, 5);
        String was = all(x);
        missingFor("outcomes(5, what)", what -> x.outcomes(5, what), -1, 2);
        missingFor("toSpare(5, what)", what -> x.toSpare(5, what), -1, 2);
        for (int n : new int[] {-1, 401, LEAST, MOST}) {
            missingFor("outcomes(" + n + ", what)", what -> x.outcomes(n, what), -1, 2);
            missingFor("toSpare(" + n + ", what)", what -> x.toSpare(n, what), -1, 2);
            for (int what = 0; what < 2; what++) {
                int w = what;
                illegal("outcomes(" + n + ", " + what + ")", () -> x.outcomes(n, w));
                illegal("toSpare(" + n + ", " + what + ")", () -> x.toSpare(n, w));
            }
        }
        due("outcomes(400, 0)", () -> x.outcomes(400, 0), 1);
        due("outcomes(0, 0)", () -> x.outcomes(0, 0), 1);
        due("toSpare(400, 0)", () -> x.toSpare(400, 0), 1);
        due("toSpare(0, 0)", () -> x.toSpare(0, 0), 1);
        same("all", all(x), was);
        due("status", () -> x.count(16) + x.count(17), 0);
    }

    private static void status() {
        about("STATUS: how many calls were refused: 0 TEXTS with a FAULT, 1 ACTS");
        RecordDesk x = new RecordDesk();
        for (int i = 1; i <= 3; i++) {
            int due = i;
            told(x, "#");
            x.steps(1);
            x.give(3, 1);
            x.undo();
            due("status 0", () -> x.count(16), due);
            due("status 1", () -> x.count(17), 2 * due);
        }
        missing("cell(16)", () -> x.cell(16));
        illegal("program(1)", () -> x.program(1));
        for (int i = 0; i < 36; i++) x.feed(0, 0, 0, 0, 0);
        due("status 0, no other calls", () -> x.count(16), 3);
        due("status 1, no other calls", () -> x.count(17), 6);
    }

    private static void imageKeeps() {
        about("AN IMAGE keeps all that STEPS and ACTS change, the RECORD, the CURSOR, ACTS that are kept, STATUS");
        RecordDesk x = desk("point 2;quantum 2;thread a:read 0 0,lock 1,store 1 0,unlock 1,jump a;thread a:load 0 1,jump a;");
        x.give(0, 4);
        x.give(0, 5);
        x.steps(11);
        x.seek(6);
        x.steps(0);
        told(x, "#");
        x.image();
        String was = all(x);
        for (int i = 0; i < 3; i++) x.undo();
        due("undo() of none", x::undo, -1);
        x.give(0, 9);
        x.give(1, 9);
        x.steps(30);
        x.seek(1);
        x.steps(99);
        told(x, "#");
        due("restore()", () -> x.restore() ? 1 : 0, 1);
        same("all", all(x), was);
        due("status 0", () -> x.count(16), 1);
        due("status 1", () -> x.count(17), 1);
        due("inputs in the record", () -> x.count(5) + x.count(13), 2);
        due("undo()", x::undo, 2);
        due("undo()", x::undo, 1);
        due("give again", () -> x.give(0, 7), 2);
        due("restore() again", () -> x.restore() ? 1 : 0, 1);
        same("all again", all(x), was);
        // The tape isn't what STEPS and ACTS change.
        x.feed(0, 0, 0, 0, 0);
        x.restore();
        due("the tape", () -> x.count(15), 20);
    }

    private static void actOn(RecordDesk x) {
        x.give(0, 1);
        x.give(1, 2);
        x.steps(9);
        x.give(0, 3);
        x.steps(7);
    }

    private static void restoreBehindAnotherCourse() {
        about("promise 33: It is as the IMAGE again, whatever was done and looked at in between");
        String text = "quantum 5;point 4;thread a:read 0 0,store 0 0,jump a;thread a:read 0 1,lock 0,store 0 0,unlock 0,jump a;thread a:load 1 0,jump a;";
        RecordDesk x = desk(text);
        RecordDesk y = desk(text);
        actOn(x);
        actOn(y);
        x.image();
        for (int i = 0; i < 5; i++) x.undo();
        for (int i = 0; i < 3; i++) x.give(1, 7);
        x.steps(5);
        x.steps(17);
        x.seek(22);
        x.mark();
        x.races(0);
        due("restore()", () -> x.restore() ? 1 : 0, 1);
        same("all", all(x), all(y));
        x.seek(16);
        y.seek(16);
        due("mark()", x::mark, y.mark());
        for (int i = 0; i < 2; i++) {
            int source = i;
            due("input(" + i + ", 0)", () -> x.input(source, 0), i + 1);
        }
        // What is drawn behind the image is as it would have been.
        due("steps(20)", () -> x.steps(20), y.steps(20));
        same("behind steps", brief(x), brief(y));
        for (int i = 0; i < 3; i++) {
            due("undo()", x::undo, y.undo());
            due("undo()", x::undo, y.undo());
            due("steps(6)", () -> x.steps(6), y.steps(6));
            same("behind undo() and steps", brief(x), brief(y));
        }
        // A LOCK is had at the image, and then isn't.
        RecordDesk z = ran("thread lock 2,unlock 2,lock 2;", 1);
        z.image();
        rests(z, 2);
        z.undo();
        z.undo();
        due("restore()", () -> z.restore() ? 1 : 0, 1);
        rests(z, 2);
        z.seek(3);
        due("lock(2)", () -> z.lock(2), 0);
    }

    private static void imageInPlaceOfAnother() {
        about("promise 32: AN IMAGE is kept, in place of another one");
        RecordDesk x = ran(LOOP, 3);
        x.image();
        x.steps(4);
        x.image();
        x.steps(5);
        due("restore()", () -> x.restore() ? 1 : 0, 1);
        due("time", () -> x.count(1), 7);
        due("restore()", () -> x.restore() ? 1 : 0, 1);
        due("time", () -> x.count(1), 7);
        // An image at the beginning, of no thread, and of a full run.
        RecordDesk none = new RecordDesk();
        none.image();
        none.give(0, 1);
        due("restore() of none", () -> none.restore() ? 1 : 0, 1);
        due("given", () -> none.count(13), 0);
        RecordDesk full = desk("point 1;" + LOOP + LOOP);
        for (int i = 0; i < 8; i++) rests(full, 50);
        int digest = full.digest(399);
        int races = full.count(4);
        full.image();
        for (int i = 0; i < 8; i++) full.undo();
        full.give(0, 1);
        due("restore()", () -> full.restore() ? 1 : 0, 1);
        due("time", () -> full.count(1), 400);
        due("digest(399)", () -> full.digest(399), digest);
        due("switches", () -> full.count(4), races);
        due("undo()", full::undo, 7);
        due("time", () -> full.count(1), 350);
    }

    private static void restoreOfNone() {
        about("promise 33: False: there is none");
        RecordDesk x = ran(LOOP, 3);
        String was = all(x);
        due("restore()", () -> x.restore() ? 1 : 0, 0);
        same("all", all(x), was);
        x.image();
        due("program", () -> told(x, LOOP), 0);
        due("gone by a new program", () -> x.restore() ? 1 : 0, 0);
        x.image();
        due("program", () -> told(x, "#"), 1);
        due("not gone by a fault", () -> x.restore() ? 1 : 0, 1);
        illegal("program(1)", () -> x.program(1));
        due("nor by a call that is refused", () -> x.restore() ? 1 : 0, 1);
    }

    private static void looksChangeNothing() {
        about("promises 5 to 31: what is looked at stays");
        RecordDesk x = turned(2);
        x.seek(4);
        String was = all(x);
        for (int how = 0; how <= 5; how++) {
            for (int what = 0; what < 3; what++) {
                if (how != 4) x.diverged(how, 0, 1, what);
            }
        }
        for (int source = 0; source < 3; source++) x.matters(source);
        x.outcomes(400, 0);
        x.toSpare(400, 0);
        x.last(0, 0);
        x.firstRead(0);
        x.guards(0);
        x.races(2);
        x.hot(-1, 0);
        x.image();
        same("all", all(x), was);
        due("steps go on", () -> x.steps(1), -1);
        due("undo()", x::undo, 4);
    }
}
