/**
 * Each promise by answers that were found by hand from the document. What SEED 1 draws is
 * 16838, 5758, 10113, 17515, 31051, 5627, 23010, 7419, 16212, 4086 (each MOD n then).
 */
public final class PromisesTest extends Checks {
    public static void main(String[] args) {
        aNewObject();
        feed();
        program();
        fault();
        faultsOfTexts();
        longTexts();
        cutTexts();
        count();
        ring();
        set();
        steps();
        draws();
        instructions();
        give();
        undo();
        undoBringsAllBack();
        switched();
        input();
        digest();
        snapshot();
        seek();
        cell();
        thread();
        lock();
        mark();
        back();
        on();
        last();
        held();
        firstRead();
        races();
        racesUpToTheLastTime();
        race();
        guards();
        hot();
        diverged();
        divergedDigests();
        divergedInputs();
        matters();
        outcomes();
        toSpare();
        image();
        restore();
        restoreBehindOtherActs();
        finish("all promises are kept");
    }

    private static void aNewObject() {
        about("promise 1");
        RecordDesk x = new RecordDesk();
        int[] all = {0, 0, -1, 0, 0, 0, 0, 0, 0, 1, 0, 0, 0, 0, 0, 0, 0, 0};
        for (int i = 0; i < all.length; i++) {
            int what = i;
            due("count(" + i + ")", () -> x.count(what), all[i]);
        }
        due("set(0)", () -> x.set(0), 3);
        due("set(1)", () -> x.set(1), 1);
        due("set(2)", () -> x.set(2), 10);
        due("set(3)", () -> x.set(3), 4);
        due("fault()", x::fault, -1);
        due("restore()", () -> x.restore() ? 1 : 0, 0);
        due("undo()", x::undo, -1);
        due("NONE", () -> RecordDesk.NONE, -1);
    }

    private static void feed() {
        about("promise 2");
        RecordDesk x = new RecordDesk();
        for (int i = 1; i <= 35; i++) {
            due("feed " + i, () -> x.feed(0, 0, 0, 0, 0), 20 * i);
        }
        due("feed 36", () -> x.feed(0, 0, 0, 0, 0), -1);
        due("count(15)", () -> x.count(15), 700);
        RecordDesk y = new RecordDesk();
        // 'seed' '   4' '2;  ', blanks, and the last byte alone is a sign that is none.
        y.feed(0x73656564, 0x20202034, 0x323b2020, 0x20202020, 0x202020ff);
        due("program(19)", () -> y.program(19), 0);
        due("set(1)", () -> y.set(1), 42);
        y.feed(0x73656564, 0x20202034, 0x323b2020, 0x20202020, 0x202020ff);
        due("program(20)", () -> y.program(20), 1);
        due("fault()", y::fault, 19);
    }

    private static void program() {
        about("promise 3");
        RecordDesk x = ran(SIX_SKIPS, 3);
        x.give(0, 4);
        x.seek(2);
        x.image();
        x.steps(99);
        due("program(1) of no tape", () -> x.program(1), ILLEGAL);
        due("program(-1)", () -> x.program(-1), ILLEGAL);
        due("fault() behind these", x::fault, -1);
        put(x, "seed 5 5;");
        due("program(21)", () -> x.program(21), ILLEGAL);
        due("count(15) stays", () -> x.count(15), 20);
        due("program with a fault", () -> x.program(9), 1);
        due("the tape is empty", () -> x.count(15), 0);
        due("the time stays", () -> x.count(1), 3);
        due("the cursor stays", () -> x.count(11), 2);
        due("inputs stay", () -> x.count(13), 1);
        due("acts stay", () -> x.count(14), 2);
        due("the seed stays", () -> x.set(1), 1);
        due("status 0", () -> x.count(16), 1);
        due("the image stays", () -> x.restore() ? 1 : 0, 1);
        due("status 0 is the image's", () -> x.count(16), 0);
        x.steps(99);
        told(x, "x");
        due("a new program", () -> told(x, "seed 9;" + SIX_SKIPS + SIX_SKIPS), 0);
        int[] all = {2, 0, -1, 0, 0, 0, 0, 2, 0, 1, 0, 0, 0, 0, 0, 0, 1, 1};
        for (int i = 0; i < all.length; i++) {
            int what = i;
            due("count(" + i + ") anew", () -> x.count(what), all[i]);
        }
        due("the image is gone", () -> x.restore() ? 1 : 0, 0);
        due("no act is kept", x::undo, -1);
        due("seed", () -> x.set(1), 9);
        x.steps(1);
        put(x, "thread skip;");
        due("program(0)", () -> x.program(0), 0);
        due("no thread", () -> x.count(0), 0);
        due("seed without", () -> x.set(1), 1);
        due("tape", () -> x.count(15), 0);
    }

    private static void fault() {
        about("promise 4");
        RecordDesk x = new RecordDesk();
        told(x, "seed 5; x");
        due("fault()", x::fault, 8);
        told(x, "seed 5;");
        due("fault() without", x::fault, -1);
    }

    private static void faultsOfTexts() {
        about("promise 3");
        text("", 0, -1);
        text(" \n ", 0, -1);
        text("seed1;quantum 9;point 50;snaps 8;cell 15-9999;cell 0 - 0003;", 0, -1);
        text("seed\n0 ; quantum\n1;point1;snaps2;", 0, -1);
        text("threada:set 3-9999;", 1, 0);
        text("thread a:set 3-9999,abcdefgh:less 0 3 a,zero 1 abcdefgh,unlock 3,read 3 2,store 15 3,load 3 15;", 0, -1);
        text("seed", 1, 4);
        text("seed  ", 1, 6);
        text("seed 1", 1, 6);
        text("seed ;", 1, 5);
        text("seed -1;", 1, 5);
        text("seed 1 2;", 1, 7);
        text("seed 9999;", 0, -1);
        text("seed 10000;", 2, 5);
        text("seed 00001;", 2, 5);
        text("seed 0001;", 0, -1);
        text("quantum 0;", 2, 8);
        text("quantum 10;", 2, 8);
        text("point 0;", 2, 6);
        text("point 51;", 2, 6);
        text("snaps 1;", 2, 6);
        text("snaps 9;", 2, 6);
        text("seed 1;seed 1;", 5, 7);
        text("seed 1;quantum 2; quantum", 5, 18);
        text("point 1;point;", 5, 8);
        text("snaps 2;snaps 2;", 5, 8);
        text("cell 3 1;cell 4 1;cell 3 1;", 5, 23);
        text("cell 16 1;", 2, 5);
        text("cell 3 --1;", 1, 8);
        text("cell 3 -;", 1, 8);
        text("cell -3 1;", 1, 5);
        text("cell 3 10000;", 2, 7);
        text("cell 3 -12345;", 2, 8);
        text("12345;", 1, 0);
        text("abcdefghi 1;", 1, 0);
        text("a:skip;", 1, 0);
        text("skip;", 1, 0);
        text("Seed 1;", 1, 0);
        text("seed 1;\t", 1, 7);
        text("thread;", 1, 6);
        text("thread skip", 1, 11);
        text("thread skip,;", 1, 12);
        text("thread skip skip;", 1, 12);
        text("thread seed:skip;", 1, 7);
        text("thread skip:skip;", 1, 11);
        text("thread a skip;", 1, 9);
        text("thread a:b:skip;", 1, 9);
        text("thread a:abcdefghi:skip;", 1, 9);
        text("thread a:thread;", 1, 9);
        text("thread abcdefghi:skip;", 2, 7);
        text("thread abcdefgh:jump abcdefghi;", 2, 21);
        text("thread a:jump set;", 1, 14);
        text("thread a:jump 1;", 1, 14);
        text("thread a:skip,a:skip;", 4, 14);
        text("thread a:skip,a skip;", 4, 14);
        text("thread a:skip;thread a:skip;", 0, -1);
        text("thread jump b;", 3, 12);
        text("thread jump b,jump c,b:skip;", 3, 19);
        text("thread jump b;thread b:skip,jump c;", 3, 12);
        text("thread jump b;seed 1 1;", 1, 21);
        text("thread jump b,skip,b:skip;", 0, -1);
        text("thread set 4 1;", 2, 11);
        text("thread load 0 16;", 2, 14);
        text("thread store 16 0;", 2, 13);
        text("thread store 0 4;", 2, 15);
        text("thread add 0 4;", 2, 13);
        text("thread read 0 3;", 2, 14);
        text("thread lock 4;", 2, 12);
        text("thread unlock -1;", 1, 14);
        text("thread less 0 1;", 1, 15);
        text("thread set 0 1 2;", 1, 15);
    }

    private static void longTexts() {
        text("thread skip" + times(",skip", 15) + ";", 0, -1);
        text("thread skip" + times(",skip", 16) + ";", 2, 7 + 5 * 16);
        text("thread a:skip" + times(",skip", 15) + ",a:skip;", 2, 9 + 5 * 16);
        text("thread skip" + times(",skip", 15) + ",abcdefghi;", 2, 7 + 5 * 16);
        text("thread skip" + times(",skip", 15) + ",seed;", 1, 7 + 5 * 16);
        text("thread skip" + times(",skip", 15) + ",", 1, 7 + 5 * 16);
        text(times("thread skip;", 4), 0, -1);
        text(times("thread skip;", 5), 2, 48);
        text(times(" ", 699) + "x", 1, 699);
        text(times(" ", 700), 0, -1);
        text("seed " + times(" ", 694) + "1", 1, 700);
        text("thread " + times(" ", 692) + "a", 1, 700);
    }

    /** What stands on the tape behind the first n bytes is no part of the text. */
    private static void cutTexts() {
        about("promise 3");
        RecordDesk x = new RecordDesk();
        put(x, "seed 12345;");
        due("a number is cut", () -> x.program(9), 1);
        due("its place", x::fault, 9);
        put(x, "seed 12345;");
        due("blanks are cut", () -> x.program(5), 1);
        due("its place", x::fault, 5);
        put(x, "seed 1234;;");
        due("a sign is cut", () -> x.program(10), 0);
        due("seed", () -> x.set(1), 1234);
        put(x, "thread skip;");
        due("a word is cut", () -> x.program(4), 1);
        due("its place", x::fault, 0);
    }

    private static void count() {
        about("promise 5");
        RecordDesk x = desk("point 3;quantum 2;thread lock 0,read 1 2,skip;thread lock 0,skip;thread skip;");
        x.give(2, 9);
        x.give(2, 8);
        due("count(7) first", () -> x.count(7), 3);
        // Thread 2 is first (16838 MOD 3 is 2), then thread 1 (10113 MOD 2), which ends with the lock.
        due("steps", () -> x.steps(50), 3);
        due("who was first", () -> x.switched(0, 2), 2);
        due("threads", () -> x.count(0), 3);
        due("time", () -> x.count(1), 3);
        due("current", () -> x.count(2), 1);
        due("left", () -> x.count(3), 0);
        due("switches", () -> x.count(4), 2);
        due("digests", () -> x.count(6), 1);
        due("can go", () -> x.count(7), 0);
        due("ended", () -> x.count(8), 2);
        due("snapshots", () -> x.count(9), 1);
        due("cost", () -> x.count(10), 3);
        due("cursor", () -> x.count(11), 0);
        due("acts", () -> x.count(14), 3);
        due("inputs in the record", () -> x.count(5), 0);
        due("inputs not read", () -> x.count(13), 2);
        missing("count(-1)", () -> x.count(-1));
        missing("count(18)", () -> x.count(18));
    }

    private static void ring() {
        about("promise 5");
        RecordDesk one = desk("thread lock 2,lock 2;thread lock 2;");
        one.steps(50);
        // Thread 0 has it and waits for itself; thread 1 waits for it, but nobody for thread 1.
        due("ring of one", () -> one.count(12), 1);
        RecordDesk two = desk("quantum 1;thread lock 0,lock 1;thread lock 1,lock 0;");
        two.steps(50);
        due("ring of two", () -> two.count(12), 3);
        RecordDesk no = desk("thread lock 0;thread lock 0;");
        no.steps(50);
        due("no ring", () -> no.count(12), 0);
        due("steps of no ring", () -> no.count(1), 1);
    }

    private static void set() {
        about("promise 6");
        RecordDesk x = desk("snaps 7;point 33;seed 1234;quantum 8;");
        due("set(0)", () -> x.set(0), 8);
        due("set(1)", () -> x.set(1), 1234);
        due("set(2)", () -> x.set(2), 33);
        due("set(3)", () -> x.set(3), 7);
        missing("set(-1)", () -> x.set(-1));
        missing("set(4)", () -> x.set(4));
        RecordDesk y = ran("seed 7;" + LOOP, 9);
        due("set(1) as told", () -> y.set(1), 7);
    }

    private static void steps() {
        about("promise 7");
        RecordDesk x = desk(LOOP);
        due("steps(0)", () -> x.steps(0), -1);
        due("steps(51)", () -> x.steps(51), -1);
        due("steps(-5)", () -> x.steps(-5), -1);
        due("steps(most)", () -> x.steps(Integer.MAX_VALUE), -1);
        for (int i = 0; i < 7; i++) {
            due("steps(50)", () -> x.steps(50), 50);
        }
        due("steps(49)", () -> x.steps(49), 49);
        due("steps(2) to 401", () -> x.steps(2), -1);
        due("steps(1) to 400", () -> x.steps(1), 1);
        due("steps(1) to 401", () -> x.steps(1), -1);
        due("status 1", () -> x.count(17), 6);
        due("status 0", () -> x.count(16), 0);
        due("acts", () -> x.count(14), 9);
        due("cursor", () -> x.count(11), 0);
        RecordDesk y = desk(SIX_SKIPS);
        due("fewer", () -> y.steps(50), 6);
        due("none can go", () -> y.steps(1), -1);
        due("status 1", () -> y.count(17), 1);
    }

    private static void draws() {
        about("promise 7");
        RecordDesk x = desk(SIX_SKIPS + SIX_SKIPS);
        int[] lefts = {1, 0, 1, 0, 2, 1, 0, 0};
        int[] currents = {0, 0, 1, 1, 1, 1, 1, 0};
        int[] switches = {1, 1, 2, 2, 2, 2, 2, 3};
        for (int i = 0; i < lefts.length; i++) {
            due("steps(1)", () -> x.steps(1), 1);
            due("left behind " + (i + 1), () -> x.count(3), lefts[i]);
            due("current behind " + (i + 1), () -> x.count(2), currents[i]);
            due("switches behind " + (i + 1), () -> x.count(4), switches[i]);
        }
        RecordDesk y = ran("quantum 9;" + SIX_SKIPS, 1);
        // A draw of one thread is a draw, too: 5758 MOD 9 is 7.
        due("left by one thread", () -> y.count(3), 7);
    }

    private static void instructions() {
        about("promise 16");
        RecordDesk x = ran("cell 2 -7;thread set 0 -9999,load 1 2,add 2 1,sub 3 1,mul 0 0,mul 0 0,store 1 0,skip;", 8);
        x.seek(8);
        // 9999 times 9999 is 99980001, and that times itself wraps to a number of 32 bits.
        due("mul", () -> x.thread(0, 0), (int) (99980001L * 99980001L));
        due("load", () -> x.thread(0, 1), -7);
        due("add", () -> x.thread(0, 2), -7);
        due("sub", () -> x.thread(0, 3), 7);
        due("store", () -> x.cell(1), (int) (99980001L * 99980001L));
        due("place", () -> x.thread(0, 4), 8);
        due("branches", () -> x.thread(0, 5), 0);
        RecordDesk y = ran("thread set 1 1,a:zero 1 b,less 1 0 a,less 0 1 c,b:skip,c:zero 0 d,skip,d:jump a;", 6);
        y.seek(5);
        due("place behind jumps", () -> y.thread(0, 4), 7);
        y.seek(6);
        due("place behind jump", () -> y.thread(0, 4), 1);
        due("branches", () -> y.thread(0, 5), 5);
    }

    private static void give() {
        about("promise 8");
        RecordDesk x = new RecordDesk();
        for (int i = 1; i <= 30; i++) {
            due("give " + i, () -> x.give(2, 5), i);
        }
        due("give 31", () -> x.give(2, 5), -1);
        due("give(0)", () -> x.give(0, 5), 1);
        due("give(3)", () -> x.give(3, 5), -1);
        due("give(-1)", () -> x.give(-1, 5), -1);
        due("status 1", () -> x.count(17), 3);
        due("given and not read", () -> x.count(13), 31);
        due("acts", () -> x.count(14), 31);
        x.undo();
        x.undo();
        due("given again", () -> x.give(2, 5), 30);
    }

    private static void undo() {
        about("promise 9");
        RecordDesk x = desk(LOOP);
        due("undo() of none", x::undo, -1);
        due("status 1", () -> x.count(17), 0);
        for (int i = 0; i < 43; i++) {
            x.steps(1);
        }
        due("acts", () -> x.count(14), 40);
        x.seek(30);
        due("undo()", x::undo, 39);
        due("cursor stays", () -> x.count(11), 30);
        for (int i = 38; i >= 0; i--) {
            due("undo() to " + i, x::undo, i);
        }
        due("undo() of none", x::undo, -1);
        due("time", () -> x.count(1), 3);
        due("cursor is time", () -> x.count(11), 3);
    }

    private static void undoBringsAllBack() {
        about("promise 9");
        String text = "point 2;quantum 2;cell 1 4;thread a:read 0 0,lock 1,store 1 0,unlock 1,jump a;" + LOOP;
        RecordDesk x = desk(text);
        RecordDesk y = desk(text);
        for (int i = 0; i < 4; i++) {
            x.give(0, i);
            y.give(0, i);
        }
        x.steps(17);
        y.steps(17);
        x.steps(50);
        x.give(0, 9);
        x.steps(31);
        x.seek(20);
        due("undo()", x::undo, 7);
        due("undo()", x::undo, 6);
        due("undo()", x::undo, 5);
        y.seek(17);
        // What comes next is alike, too: LEFT and what is drawn from are as they were.
        for (int round = 0; round < 4; round++) {
            for (int i = 0; i < 18; i++) {
                int what = i;
                due("count(" + i + ")", () -> x.count(what), y.count(what));
            }
            int last = y.count(6) - 1;
            due("digest(" + last + ")", () -> x.digest(last), y.digest(last));
            due("mark()", x::mark, y.mark());
            due("races(0)", () -> x.races(0), y.races(0));
            due("hot(0, 2)", () -> x.hot(0, 2), y.hot(0, 2));
            due("steps(7)", () -> x.steps(7), y.steps(7));
            x.seek(x.count(1));
            y.seek(y.count(1));
        }
    }

    private static void switched() {
        about("promise 10");
        RecordDesk x = ran(SIX_SKIPS + SIX_SKIPS, 8);
        int[][] all = {{0, 0, 0}, {0, 2, 1}, {0, 5, 0}};
        for (int i = 0; i < 3; i++) {
            for (int what = 0; what < 3; what++) {
                int k = i;
                int w = what;
                due("switched(" + i + ", " + what + ")", () -> x.switched(k, w), all[i][what]);
            }
        }
        missing("switched(3, 0)", () -> x.switched(3, 0));
        missing("switched(-1, 0)", () -> x.switched(-1, 0));
        missing("switched(0, 3)", () -> x.switched(0, 3));
        missing("switched(0, -1)", () -> x.switched(0, -1));
        RecordDesk y = ran(LOOP + LOOP, 3);
        due("branches of who is left", () -> y.switched(1, 0), 2);
        due("place of who is left", () -> y.switched(1, 1), 0);
    }

    private static void input() {
        about("promise 11");
        RecordDesk x = desk("thread a:read 0 1,read 0 2,jump a;");
        missing("input(1, 0)", () -> x.input(1, 0));
        x.give(1, 5);
        x.give(1, 6);
        x.give(2, 7);
        missing("input(1, 0) not read", () -> x.input(1, 0));
        due("steps", () -> x.steps(50), 4);
        due("input(1, 0)", () -> x.input(1, 0), 5);
        due("input(1, 1)", () -> x.input(1, 1), 6);
        due("input(2, 0)", () -> x.input(2, 0), 7);
        missing("input(1, 2)", () -> x.input(1, 2));
        missing("input(1, -1)", () -> x.input(1, -1));
        missing("input(0, 0)", () -> x.input(0, 0));
        missing("input(3, 0)", () -> x.input(3, 0));
        missing("input(-1, 0)", () -> x.input(-1, 0));
    }

    private static void digest() {
        about("promise 12");
        RecordDesk x = ran("point 2;thread lock 3,set 1 6,store 5 1,a:jump a;", 5);
        due("digest(0)", () -> x.digest(0), digestOf(5, 0, 0, 6, 0, 0, 2, 0, -1, -1, -1, 0, 0));
        due("digest(1)", () -> x.digest(1), digestOf(5, 6, 0, 6, 0, 0, 3, 1, -1, -1, -1, 0, 0));
        missing("digest(2)", () -> x.digest(2));
        missing("digest(-1)", () -> x.digest(-1));
        RecordDesk y = ran("point 1;" + LOOP, 50);
        due("count(6)", () -> y.count(6), 50);
        due("digest(49)", () -> y.digest(49), digestOf(0, 0, 0, 0, 0, 0, 0, 50, -1, -1, -1, -1, 0));
    }

    private static void snapshot() {
        about("promise 13");
        RecordDesk x = ran(LOOP, 15);
        missing("snapshot(1) at 15", () -> x.snapshot(1));
        x.steps(1);
        due("snapshot(1) at 16", () -> x.snapshot(1), 16);
        x.steps(50);
        x.steps(46);
        // 0 16 32 48 64 drops 16; 0 32 48 64 80 drops 48; 0 32 64 80 96 drops 80 (of 48, 32 the least);
        // 0 32 64 96 112 drops 96 (64, 64, 48).
        int[] all = {0, 32, 64, 112};
        due("count(9)", () -> x.count(9), 4);
        for (int i = 0; i < 4; i++) {
            int k = i;
            due("snapshot(" + i + ")", () -> x.snapshot(k), all[i]);
        }
        missing("snapshot(4)", () -> x.snapshot(4));
        missing("snapshot(-1)", () -> x.snapshot(-1));
        due("greatest cost", () -> x.count(10), 47);
        x.undo();
        due("undone", () -> x.snapshot(3), 64);
        due("greatest cost", () -> x.count(10), 31);
        RecordDesk two = ran("snaps 2;" + LOOP, 50);
        due("snapshot(1) of two", () -> two.snapshot(1), 48);
        missing("snapshot(2) of two", () -> two.snapshot(2));
    }

    private static void seek() {
        about("promise 14");
        RecordDesk x = ran(LOOP, 40);
        due("seek(0)", () -> x.seek(0), 0);
        due("seek(15)", () -> x.seek(15), 15);
        due("seek(16)", () -> x.seek(16), 0);
        due("seek(40)", () -> x.seek(40), 8);
        due("cursor", () -> x.count(11), 40);
        missing("seek(41)", () -> x.seek(41));
        missing("seek(-1)", () -> x.seek(-1));
        due("cursor stays", () -> x.count(11), 40);
        due("branches", () -> x.thread(0, 5), 40);
        x.seek(3);
        due("branches behind 3", () -> x.thread(0, 5), 3);
    }

    private static void cell() {
        about("promise 15");
        RecordDesk x = ran("cell 4 -12;thread set 0 8,store 4 0,store 15 0;", 3);
        due("cell(4) at 0", () -> x.cell(4), -12);
        x.seek(2);
        due("cell(4) at 2", () -> x.cell(4), 8);
        due("cell(15) at 2", () -> x.cell(15), 0);
        x.seek(3);
        due("cell(15) at 3", () -> x.cell(15), 8);
        missing("cell(16)", () -> x.cell(16));
        missing("cell(-1)", () -> x.cell(-1));
    }

    private static void thread() {
        about("promise 16");
        RecordDesk x = ran(SIX_SKIPS + SIX_SKIPS, 8);
        due("current at 0", () -> x.thread(0, 7) + x.thread(1, 7), 0);
        x.seek(7);
        due("place", () -> x.thread(1, 4), 5);
        due("place", () -> x.thread(0, 4), 2);
        due("current", () -> x.thread(1, 7), 1);
        due("current", () -> x.thread(0, 7), 0);
        due("ended", () -> x.thread(1, 6), 0);
        x.steps(4);
        x.seek(12);
        due("ended", () -> x.thread(1, 6) + x.thread(0, 6), 2);
        missing("thread(2, 0)", () -> x.thread(2, 0));
        missing("thread(-1, 0)", () -> x.thread(-1, 0));
        missing("thread(0, 8)", () -> x.thread(0, 8));
        missing("thread(0, -1)", () -> x.thread(0, -1));
    }

    private static void lock() {
        about("promise 17");
        RecordDesk x = ran("thread lock 3,unlock 2,unlock 3,skip;", 4);
        int[] all = {-1, 0, 0, -1, -1};
        for (int i = 0; i < all.length; i++) {
            x.seek(i);
            due("lock(3) at " + i, () -> x.lock(3), all[i]);
            due("lock(2) at " + i, () -> x.lock(2), -1);
        }
        missing("lock(4)", () -> x.lock(4));
        missing("lock(-1)", () -> x.lock(-1));
        // Thread 0 takes it by its quantum of 2; thread 1 lets go of what it hasn't.
        RecordDesk y = ran("thread lock 0,skip,skip;thread unlock 0,skip;", 3);
        y.seek(3);
        due("unlock of another one's", () -> y.lock(0), 0);
        due("is done", () -> y.thread(1, 4), 1);
    }

    private static void mark() {
        about("promise 18");
        RecordDesk x = ran("point 50;cell 5 3;thread lock 3,set 1 6,store 5 1,a:jump a;", 5);
        due("mark() at 0", x::mark, digestOf(5, 3, 0, 0, 0, 0, 0, 0, -1, -1, -1, -1, -1));
        x.seek(4);
        due("mark() at 4", x::mark, digestOf(5, 6, 0, 6, 0, 0, 3, 1, -1, -1, -1, 0, 0));
        RecordDesk none = new RecordDesk();
        due("mark() of none", none::mark, digestOf(0, 0, -1, -1, -1, -1, -1));
    }

    private static void back() {
        about("promise 19");
        RecordDesk x = ran("thread skip,a:skip,jump a;", 9);
        due("back at 0", () -> x.back(0, 1), -1);
        x.seek(8);
        due("back", () -> x.back(0, 1), 8);
        due("cursor", () -> x.count(11), 7);
        due("back", () -> x.back(0, 1), 6);
        due("back", () -> x.back(0, 0), 1);
        due("cursor", () -> x.count(11), 0);
        missing("back(1, 0)", () -> x.back(1, 0));
        missing("back(-1, 0)", () -> x.back(-1, 0));
        missing("back(0, 3)", () -> x.back(0, 3));
        missing("back(0, -1)", () -> x.back(0, -1));
    }

    private static void on() {
        about("promise 20");
        RecordDesk x = ran("thread skip,a:skip,jump a;", 9);
        due("on", () -> x.on(0, 1), 2);
        due("cursor", () -> x.count(11), 2);
        due("on", () -> x.on(0, 1), 4);
        due("on, none", () -> x.on(0, 0), -1);
        due("cursor stays", () -> x.count(11), 4);
        x.seek(8);
        due("on up to time", () -> x.on(0, 2), 9);
        due("on behind time", () -> x.on(0, 1), -1);
        missing("on(1, 0)", () -> x.on(1, 0));
        missing("on(-1, 0)", () -> x.on(-1, 0));
        missing("on(0, 3)", () -> x.on(0, 3));
        missing("on(0, -1)", () -> x.on(0, -1));
    }

    private static void last() {
        about("promise 21");
        RecordDesk x = ran("thread set 0 4,store 3 0,load 1 3,store 3 1,skip;", 5);
        due("last at 0", () -> x.last(3, 0), -1);
        due("last at 0", () -> x.last(3, 1), -1);
        due("last at 0", () -> x.last(3, 2), -1);
        x.seek(3);
        due("last at 3", () -> x.last(3, 0), 2);
        due("last at 3", () -> x.last(3, 1), 0);
        due("last at 3", () -> x.last(3, 2), 1);
        x.seek(5);
        due("last at 5", () -> x.last(3, 0), 4);
        due("last of another", () -> x.last(4, 0), -1);
        missing("last(16, 0)", () -> x.last(16, 0));
        missing("last(-1, 0)", () -> x.last(-1, 0));
        missing("last(3, 3)", () -> x.last(3, 3));
        missing("last(3, -1)", () -> x.last(3, -1));
    }

    private static void held() {
        about("promise 22");
        RecordDesk x = ran("cell 3 11;thread set 0 4,store 3 0,set 0 5,store 3 0,skip;", 5);
        missing("held at 0", () -> x.held(3));
        x.seek(2);
        due("held at 2", () -> x.held(3), 11);
        x.seek(5);
        due("held at 5", () -> x.held(3), 4);
        due("the cursor stays", () -> x.count(11), 5);
        due("cell at 5", () -> x.cell(3), 5);
        missing("held(4)", () -> x.held(4));
        missing("held(16)", () -> x.held(16));
        missing("held(-1)", () -> x.held(-1));
    }

    private static void firstRead() {
        about("promise 23");
        RecordDesk x = ran("thread skip,load 0 2,store 2 0,load 0 2;", 3);
        due("firstRead at 0", () -> x.firstRead(2), 2);
        x.seek(2);
        due("a store comes ahead", () -> x.firstRead(2), -1);
        x.seek(3);
        due("none up to time", () -> x.firstRead(2), -1);
        x.steps(1);
        due("one up to time", () -> x.firstRead(2), 4);
        due("of another", () -> x.firstRead(3), -1);
        missing("firstRead(16)", () -> x.firstRead(16));
        missing("firstRead(-1)", () -> x.firstRead(-1));
    }

    /** Thread 0 is first for two steps, thread 1 then for five, thread 0 then. */
    private static RecordDesk racing() {
        return ran("thread load 0 0,store 1 0,load 1 1;thread store 0 0,load 1 1,load 2 0,store 1 2,skip;", 8);
    }

    private static void races() {
        about("promise 24");
        RecordDesk x = racing();
        // 1-3 of cell 0; 2-4, 2-6, 6-8 of cell 1. (1 and 5 both load.)
        due("races(0)", () -> x.races(0), 4);
        due("races(1)", () -> x.races(1), 2);
        due("races(2)", () -> x.races(2), 4);
        missing("races(3)", () -> x.races(3));
        missing("races(-1)", () -> x.races(-1));
        RecordDesk loops = ran("quantum 1;thread a:store 0 0,jump a;thread a:store 0 0,jump a;", 40);
        due("couples go one way and the other", () -> loops.races(2), 2);
        loops.undo();
        due("undone", () -> loops.races(0), 0);
        String guarded = "thread lock 0,store 0 0,unlock 0,skip;";
        RecordDesk y = desk(guarded + guarded + guarded);
        due("steps", () -> y.steps(50), 12);
        due("ordered by a lock", () -> y.races(0), 0);
        // An 'unlock' by one who hasn't the lock orders nothing.
        RecordDesk z = desk("thread store 0 0,unlock 0;thread lock 0,load 0 0,skip,skip,skip;");
        due("steps", () -> z.steps(50), 7);
        due("not ordered", () -> z.races(0), 1);
        // From one to the next: 0 to 1 by lock 0, 1 to 2 by lock 1.
        RecordDesk w = desk("thread lock 0,store 0 0,unlock 0;thread read 0 0,lock 0,unlock 0,lock 1,unlock 1;"
            + "thread read 0 1,lock 1,load 0 0;");
        due("steps of 0", () -> w.steps(50), 3);
        w.give(0, 1);
        due("steps of 1", () -> w.steps(50), 5);
        w.give(1, 1);
        due("steps of 2", () -> w.steps(50), 3);
        due("ordered from one to the next", () -> w.races(0), 0);
    }

    private static void racesUpToTheLastTime() {
        about("promise 24");
        RecordDesk x = desk("thread a:store 0 0,jump a;thread a:store 0 0,jump a;thread a:store 0 0,jump a;");
        for (int i = 0; i < 8; i++) {
            due("steps(50)", () -> x.steps(50), 50);
        }
        // Nothing is ordered: each store is in a race with all those of the other threads.
        int[] stores = new int[3];
        for (int i = 0; i < x.hot(-1, 0); i++) {
            if (x.hot(i, 1) == 0) stores[x.hot(i, 0)] = x.hot(i, 2);
        }
        int all = stores[0] * stores[1] + stores[0] * stores[2] + stores[1] * stores[2];
        due("races(0) at 400", () -> x.races(0), all);
        due("races(2) at 400", () -> x.races(2), 6);
        x.seek(400);
        int last = x.last(0, 0);
        due("the last race", () -> x.race(all - 1, 1), last);
        missing("behind the last race", () -> x.race(all, 0));
    }

    private static void race() {
        about("promise 25");
        RecordDesk x = racing();
        int[][] all = {{1, 3, 0}, {2, 4, 1}, {2, 6, 1}, {6, 8, 1}};
        for (int i = 0; i < 4; i++) {
            for (int what = 0; what < 3; what++) {
                int k = i;
                int w = what;
                due("race(" + i + ", " + what + ")", () -> x.race(k, w), all[i][what]);
            }
        }
        missing("race(4, 0)", () -> x.race(4, 0));
        missing("race(-1, 0)", () -> x.race(-1, 0));
        missing("race(0, 3)", () -> x.race(0, 3));
        missing("race(0, -1)", () -> x.race(0, -1));
        RecordDesk y = ran("thread store 0 0,store 0 0,skip;thread load 0 0,skip;", 3);
        due("by the earlier one", () -> y.race(0, 0), 1);
        due("then the next", () -> y.race(1, 0), 2);
    }

    private static void guards() {
        about("promise 26");
        RecordDesk x = ran("thread lock 1,lock 3,store 2 0,load 0 5,unlock 1,load 0 2,unlock 3,load 0 7;", 8);
        due("guards(2)", () -> x.guards(2), 8);
        due("guards(5)", () -> x.guards(5), 10);
        due("guards(7)", () -> x.guards(7), 0);
        due("guards(0)", () -> x.guards(0), 15);
        missing("guards(16)", () -> x.guards(16));
        missing("guards(-1)", () -> x.guards(-1));
        // The lock is another one's.
        RecordDesk y = ran("thread lock 0,skip,skip;thread load 0 4,skip;", 3);
        due("guards(4)", () -> y.guards(4), 0);
    }

    private static void hot() {
        about("promise 27");
        RecordDesk x = ran("thread jump b,a:skip,b:skip,jump a;", 8);
        due("hot(NONE)", () -> x.hot(-1, 77), 4);
        int[][] all = {{0, 0, 1}, {0, 2, 3}, {0, 3, 2}, {0, 1, 2}};
        for (int i = 0; i < 4; i++) {
            for (int what = 0; what < 3; what++) {
                int k = i;
                int w = what;
                due("hot(" + i + ", " + what + ")", () -> x.hot(k, w), all[i][what]);
            }
        }
        missing("hot(4, 0)", () -> x.hot(4, 0));
        missing("hot(-2, 0)", () -> x.hot(-2, 0));
        missing("hot(0, 3)", () -> x.hot(0, 3));
        missing("hot(0, -1)", () -> x.hot(0, -1));
        RecordDesk y = ran(SIX_SKIPS + SIX_SKIPS, 3);
        due("hot(2, 0)", () -> y.hot(2, 0), 1);
        due("hot(2, 1)", () -> y.hot(2, 1), 0);
    }

    private static void diverged() {
        about("promise 28");
        // Switches: (0, 0, 0), (0, 2, 1), (0, 5, 0); thread 1 has steps 3 to 7.
        RecordDesk x = ran("point 2;" + SIX_SKIPS + SIX_SKIPS, 8);
        diverged(x, 0, 0, 0, -1, -1, -1);
        // Thread 1 is first, at (0, 2) it is taken to itself, at (0, 5) thread 0 comes.
        diverged(x, 0, 0, 1, 1, 0, -1);
        // Thread 0 goes on, and at (0, 5) to itself; it has ended behind 6.
        diverged(x, 0, 1, 0, 3, 1, 6);
        diverged(x, 1, 1, 9, 3, 1, 6);
        // Without the first, thread 1 is first; thread 0 comes at (0, 5).
        diverged(x, 1, 0, 0, 1, 0, -1);
        // Thread 1 goes on: its last one is step 8.
        diverged(x, 1, 2, 0, 8, 3, -1);
        missing("how 6", () -> x.diverged(6, 0, 0, 0));
        missing("how -1", () -> x.diverged(-1, 0, 0, 0));
        missing("what 3", () -> x.diverged(0, 0, 0, 3));
        missing("what -1", () -> x.diverged(0, 0, 0, -1));
        missing("no such switch", () -> x.diverged(0, 3, 0, 0));
        missing("no such switch", () -> x.diverged(1, 3, 0, 0));
        missing("no such switch", () -> x.diverged(1, -1, 0, 0));
        missing("no such thread", () -> x.diverged(0, 0, 2, 0));
        missing("no such thread", () -> x.diverged(0, 0, -1, 0));
        missing("no such cell", () -> x.diverged(5, 16, 0, 0));
        missing("no such cell", () -> x.diverged(5, -1, 0, 0));
        missing("no such input", () -> x.diverged(2, 0, 0, 0));
        RecordDesk none = new RecordDesk();
        diverged(none, 5, 0, 1, 0, -1, -1);
        // The only switch isn't there: nobody does the first one.
        RecordDesk one = ran("point 1;" + SIX_SKIPS, 2);
        diverged(one, 1, 0, 0, 1, -1, 0);
    }

    private static void divergedDigests() {
        about("promise 28");
        RecordDesk x = desk("point 4;thread read 0 0,set 2 31,mul 2 0,sub 1 2;");
        x.give(0, 0);
        due("steps", () -> x.steps(50), 4);
        // Registers 0, 1, 2 are 1, -31, 31 in place of 0, 0, 0 at last.
        diverged(x, 2, 0, 1, 1, 0, -1);
        RecordDesk y = desk("point 5;thread read 0 0,set 2 31,mul 2 0,sub 1 2,sub 2 2;");
        y.give(0, 0);
        due("steps", () -> y.steps(50), 5);
        // They are 1, -31, 0 in place of 0, 0, 0 at last: 1 times 31 and -31 is 0, the digests are alike.
        diverged(y, 2, 0, 1, 1, -1, -1);
    }

    private static void divergedInputs() {
        about("promise 28");
        RecordDesk x = desk("point 2;thread a:read 0 1,zero 0 b,jump a,b:read 1 2,store 3 1;");
        x.give(1, 5);
        x.give(1, 0);
        x.give(2, 8);
        due("steps", () -> x.steps(50), 7);
        // The second one isn't 0: a third one of the source is read, which isn't there.
        diverged(x, 3, 1, 1, 4, 1, 6);
        // The first one is 0: it goes to b, and the thread has ended behind four.
        diverged(x, 3, 0, 0, 1, 0, 4);
        diverged(x, 4, 0, 9, 6, 2, -1);
        diverged(x, 4, 0, 8, -1, -1, -1);
        diverged(x, 5, 3, 1, 0, 0, -1);
        missing("no such input", () -> x.diverged(3, 2, 0, 0));
        missing("no such input", () -> x.diverged(3, -1, 0, 0));
        missing("no such input", () -> x.diverged(2, 0, 0, 0));
    }

    private static void matters() {
        about("promise 29");
        RecordDesk x = desk("thread read 0 0,store 1 0,read 0 0,read 0 1,zero 0 a,jump b,a:skip,b:skip,lock 0;");
        x.give(0, 3);
        x.give(0, -1);
        x.give(0, 4);
        x.give(1, 0);
        due("matters at first", () -> x.matters(0), 0);
        due("steps", () -> x.steps(50), 8);
        // The first one is stored, the second one isn't, the third one isn't read.
        due("matters(0)", () -> x.matters(0), 1);
        // One more than 0 leads to b at once by a jump: there are as many steps, and all is alike.
        due("matters(1)", () -> x.matters(1), 0);
        due("matters(2)", () -> x.matters(2), 0);
        missing("matters(3)", () -> x.matters(3));
        missing("matters(-1)", () -> x.matters(-1));
        RecordDesk y = desk("thread read 0 2,zero 0 a,jump b,a:skip,skip,b:skip;");
        y.give(2, -1);
        due("steps", () -> y.steps(50), 4);
        // By 0 the thread would have two steps more: cells are alike at time.
        due("matters(2), cells alike", () -> y.matters(2), 0);
        RecordDesk z = desk("thread read 0 2,zero 0 a,skip,skip,a:skip;");
        z.give(2, -1);
        due("steps", () -> z.steps(50), 5);
        due("matters(2), stuck", () -> z.matters(2), 1);
    }

    private static void outcomes() {
        about("promise 30");
        RecordDesk x = desk("quantum 9;thread set 0 1,store 0 0;thread set 0 2,store 0 0;");
        due("outcomes(0, 0)", () -> x.outcomes(0, 0), 1);
        due("outcomes(0, 1)", () -> x.outcomes(0, 1), -1);
        // The first draws are 0, 16838, 908, 17747, 1817, 18655, 2726: by SEEDS 3 to 5 thread 1 is first.
        due("outcomes(400, 0)", () -> x.outcomes(400, 0), 2);
        due("outcomes(400, 1)", () -> x.outcomes(400, 1), 3);
        due("outcomes(1, 0)", () -> x.outcomes(1, 0), 1);
        missing("outcomes(0, 2)", () -> x.outcomes(0, 2));
        missing("outcomes(0, -1)", () -> x.outcomes(0, -1));
        missing("outcomes(401, 2)", () -> x.outcomes(401, 2));
        due("outcomes(401, 0)", () -> x.outcomes(401, 0), ILLEGAL);
        due("outcomes(-1, 1)", () -> x.outcomes(-1, 1), ILLEGAL);
        due("nothing is done", () -> x.count(1), 0);
        RecordDesk y = desk("thread read 0 0,store 0 0;");
        y.give(0, 5);
        y.steps(50);
        due("one thread, one outcome", () -> y.outcomes(400, 0), 1);
        due("time", () -> y.count(1), 2);
    }

    private static void toSpare() {
        about("promise 31");
        RecordDesk x = desk("quantum 4;" + SIX_SKIPS);
        due("toSpare(0, 0)", () -> x.toSpare(0, 0), 1);
        due("toSpare(0, 1)", () -> x.toSpare(0, 1), 0);
        due("toSpare(400, 0)", () -> x.toSpare(400, 0), 1);
        due("toSpare(400, 1)", () -> x.toSpare(400, 1), 1);
        missing("toSpare(0, 2)", () -> x.toSpare(0, 2));
        missing("toSpare(0, -1)", () -> x.toSpare(0, -1));
        missing("toSpare(401, 2)", () -> x.toSpare(401, 2));
        due("toSpare(401, 0)", () -> x.toSpare(401, 0), ILLEGAL);
        due("toSpare(-1, 1)", () -> x.toSpare(-1, 1), ILLEGAL);
        // By QUANTUM q: thread 0 first for 5758 MOD q and 1: 1, 1, 2, 3, 4, 5, 5, 7, 8; then thread 1.
        RecordDesk y = desk(SIX_SKIPS + SIX_SKIPS);
        due("toSpare(3, 0)", () -> y.toSpare(3, 0), 4);
        due("toSpare(3, 1)", () -> y.toSpare(3, 1), 1);
        due("toSpare(6, 0)", () -> y.toSpare(6, 0), 8);
        RecordDesk z = desk("seed 1;thread read 0 0,skip;");
        due("no input", () -> z.toSpare(5, 1), 0);
        z.give(0, 1);
        due("given at once", () -> z.toSpare(5, 1), 1);
    }

    private static void image() {
        about("promise 32");
        RecordDesk x = ran(LOOP, 5);
        x.image();
        x.steps(5);
        x.image();
        x.steps(5);
        due("restore()", () -> x.restore() ? 1 : 0, 1);
        due("time", () -> x.count(1), 10);
    }

    /** Acts and digests of the image are its own: others were put down in between. */
    private static void restoreBehindOtherActs() {
        about("promise 33");
        String text = "point 1;quantum 3;thread a:read 0 0,store 0 0,jump a;" + LOOP;
        RecordDesk x = desk(text);
        RecordDesk y = desk(text);
        for (RecordDesk each : new RecordDesk[] {x, y}) {
            each.give(0, 4);
            each.give(0, 5);
            each.steps(3);
            each.steps(4);
            each.steps(5);
        }
        x.image();
        for (int i = 0; i < 4; i++) {
            x.undo();
        }
        x.give(0, 77);
        for (int i = 0; i < 4; i++) {
            x.steps(2);
        }
        due("restore()", () -> x.restore() ? 1 : 0, 1);
        for (int acts = 4; acts >= 2; acts--) {
            for (int i = 0; i < y.count(6); i++) {
                int k = i;
                due("digest(" + i + ")", () -> x.digest(k), y.digest(k));
            }
            due("undo()", x::undo, acts);
            y.undo();
            for (int i = 0; i < 18; i++) {
                int what = i;
                due("count(" + i + ")", () -> x.count(what), y.count(what));
            }
        }
        due("steps(20)", () -> x.steps(20), y.steps(20));
        due("digest(19)", () -> x.digest(19), y.digest(19));
    }

    private static void restore() {
        about("promise 33");
        RecordDesk x = desk("point 3;quantum 2;thread a:read 0 0,store 0 0,jump a;" + SIX_SKIPS);
        due("restore() of none", () -> x.restore() ? 1 : 0, 0);
        x.give(0, 7);
        x.give(0, 8);
        x.steps(7);
        x.seek(4);
        x.steps(60);
        x.image();
        int[] counts = new int[18];
        for (int i = 0; i < 18; i++) {
            counts[i] = x.count(i);
        }
        int digest = x.digest(1);
        int mark = x.mark();
        x.undo();
        x.undo();
        x.give(0, 99);
        x.steps(50);
        x.give(0, 5);
        x.steps(50);
        x.seek(0);
        x.give(9, 9);
        told(x, "wrong");
        for (int round = 0; round < 2; round++) {
            due("restore()", () -> x.restore() ? 1 : 0, 1);
            for (int i = 0; i < 18; i++) {
                int what = i;
                due("count(" + i + ")", () -> x.count(what), counts[i]);
            }
            due("digest(1)", () -> x.digest(1), digest);
            due("mark()", x::mark, mark);
            due("fault() is no part of it", x::fault, 0);
            due("undo()", x::undo, 2);
        }
    }
}
