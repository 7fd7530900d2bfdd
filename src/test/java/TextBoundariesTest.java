/** The document's sentences on the tape and the TEXT that name a boundary case, in its order. */
public final class TextBoundariesTest extends Checks {
    private static final String[] CLAUSES = {"quantum", "seed", "point", "snaps", "cell", "thread"};
    private static final String[] OPS = {"set", "load", "store", "add", "sub", "mul", "read", "lock", "unlock",
        "jump", "zero", "less", "skip"};
    private static final String SIXTEEN = "thread skip" + ",skip".repeat(15);

    public static void main(String[] args) {
        threadsAtMostFour();
        oneToSixteenInstructions();
        cellsRegistersLocksSources();
        quantum();
        seed();
        point();
        snaps();
        atMostSevenHundredBytes();
        words();
        numbers();
        signs();
        blanks();
        whatCanStandInClauses();
        whatCanStandInLines();
        whatCanStandInInstructions();
        minus();
        names();
        firstAlongTheText();
        atTheFirstByte();
        endsTooSoon();
        leastOfOneToken();
        tooLong();
        fifthThread();
        seventeenthLine();
        nameTwice();
        toldAgain();
        noSuchName();
        quotedWordsAreNoNames();
        feedHighestFirst();
        feedFull();
        programAll();
        programTooMany();
        programAnew();
        programWithFault();
        faultPlaces();
        newObject();
        setEdges();
        finish("the boundaries of texts hold");
    }

    private static void threadsAtMostFour() {
        about("THREADS 0, 1 .. (at most 4)");
        for (int i = 0; i <= 4; i++) {
            int many = i;
            RecordDesk x = desk(times("thread skip;", i));
            due("count(0)", () -> x.count(0), many);
            missing("thread(" + i + ", 0)", () -> x.thread(many, 0));
            if (i > 0) due("thread(" + (i - 1) + ", 0)", () -> x.thread(many - 1, 0), 0);
        }
    }

    private static void oneToSixteenInstructions() {
        about("of 1 to 16 INSTRUCTIONS each");
        text("thread;", 1, 6);
        text("thread skip;", 0, -1);
        text(SIXTEEN + ";", 0, -1);
        // Each of four has sixteen of its own: 4 times 87 bytes are 348.
        RecordDesk x = desk(times(SIXTEEN + ";", 4));
        due("back of the last one", () -> x.back(3, 15), -1);
        missing("back of a 17th", () -> x.back(3, 16));
        text(SIXTEEN + ",skip;", 2, 87);
        RecordDesk one = desk("thread skip;" + SIXTEEN + ";");
        missing("back of a 2nd", () -> one.back(0, 1));
    }

    /** A NUMBER from least to most, and no other, can stand between. */
    private static void range(String ahead, int least, int most, String behind) {
        text(ahead + least + behind, 0, -1);
        text(ahead + most + behind, 0, -1);
        text(ahead + (most + 1) + behind, 2, ahead.length());
        if (least > 0) text(ahead + (least - 1) + behind, 2, ahead.length());
        text(ahead + "9999" + behind, most == 9999 ? 0 : 2, most == 9999 ? -1 : ahead.length());
        text(ahead + "00001" + behind, 2, ahead.length());
        text(ahead + "12345678901234567890" + behind, 2, ahead.length());
    }

    private static void cellsRegistersLocksSources() {
        about("16 CELLS (0 to 15), REGISTERS 0 to 3, LOCKS 0 to 3, SOURCES 0 to 2");
        range("cell ", 0, 15, " 1;");
        range("thread load 0 ", 0, 15, ";");
        range("thread store ", 0, 15, " 0;");
        for (String op : new String[] {"add ", "sub ", "mul "}) {
            range("thread " + op, 0, 3, " 0;");
            range("thread " + op + "0 ", 0, 3, ";");
        }
        range("thread set ", 0, 3, " 7;");
        range("thread load ", 0, 3, " 7;");
        range("thread store 7 ", 0, 3, ";");
        range("thread read ", 0, 3, " 1;");
        range("thread a:zero ", 0, 3, " a;");
        range("thread a:less ", 0, 3, " 0 a;");
        range("thread a:less 0 ", 0, 3, " a;");
        range("thread lock ", 0, 3, ";");
        range("thread unlock ", 0, 3, ";");
        range("thread read 0 ", 0, 2, ";");
    }

    /** A setting's edges, what it is as told, and what it is without. */
    private static void setting(String word, int what, int least, int most, int without) {
        range(word + " ", least, most, ";");
        due(word + " without", () -> desk("").set(what), without);
        due(word + ", the least", () -> desk(word + " " + least + ";").set(what), least);
        due(word + ", the most", () -> desk(word + " " + most + ";").set(what), most);
    }

    private static void quantum() {
        about("QUANTUM (1 to 9; 3 without)");
        setting("quantum", 0, 1, 9, 3);
    }

    private static void seed() {
        about("SEED (0 to 9999; 1 without)");
        setting("seed", 1, 0, 9999, 1);
    }

    private static void point() {
        about("POINT (1 to 50; 10 without)");
        setting("point", 2, 1, 50, 10);
    }

    private static void snaps() {
        about("SNAPS (2 to 8; 4 without)");
        setting("snaps", 3, 2, 8, 4);
    }

    private static void atMostSevenHundredBytes() {
        about("A TEXT of at most 700 bytes tells it");
        String most = "seed 42;" + times(" ", 680) + "thread skip;";
        RecordDesk x = desk(most);
        due("seed at the first byte", () -> x.set(1), 42);
        due("thread at the last byte", () -> x.count(0), 1);
        text(times(" ", 699) + "#", 1, 699);
        text(times("a", 700), 1, 0);
        text("seed " + times("7", 695), 2, 5);
        text("thread " + times("a", 693), 2, 7);
        text(times(";", 700), 1, 0);
        text(times("seed1;", 1) + times("\n", 694), 0, -1);
    }

    private static void words() {
        about("words (a .. z, the longest row)");
        text("seed1;", 0, -1);
        text("seeda 1;", 1, 0);
        text("see d 1;", 1, 0);
        text("threadskip;", 1, 0);
        text("thread skipa;", 1, 12);
        text("thread a:jumpa;", 1, 9);
        text("thread z:jump z;", 0, -1);
        text("thread az:skip,za:jump az;", 0, -1);
        // The signs next to a and z: 96 and 123; the great letters.
        text("thread `:skip;", 1, 7);
        text("thread {:skip;", 1, 7);
        text("thread A:skip;", 1, 7);
        text("thread aB:skip;", 1, 8);
    }

    private static void numbers() {
        about("NUMBERS (1 to 4 digits)");
        text("seed 7;", 0, -1);
        text("seed 0007;", 0, -1);
        due("0007 is 7", () -> desk("seed 0007;").set(1), 7);
        due("9 is a digit, 0 too", () -> desk("seed 9090;").set(1), 9090);
        text("seed 00007;", 2, 5);
        text("seed 12345;", 2, 5);
        // The signs next to 0 and 9: 47 and 58.
        text("seed /;", 1, 5);
        text("seed :;", 1, 5);
        text("seed 1/;", 1, 6);
        text("seed 1 2;", 1, 7);
        text("seed 1a;", 1, 6);
        text("cell 1 2a;", 1, 8);
        text("cell 12 3;", 0, -1);
    }

    private static void signs() {
        about("signs ; , : -");
        for (int sign = 0; sign < 256; sign++) {
            boolean isBlank = sign == 32 || sign == 10;
            text(String.valueOf((char) sign), isBlank ? 0 : 1, isBlank ? -1 : 0);
        }
        for (int sign = 0; sign < 256; sign++) {
            boolean isBlank = sign == 32 || sign == 10;
            boolean isDigit = sign >= '0' && sign <= '9';
            text("seed 4" + (char) sign + ";", isBlank || isDigit ? 0 : 1, isBlank || isDigit ? -1 : sign == ';' ? 7 : 6);
        }
    }

    private static void blanks() {
        about("blanks (32, 10) between them count for nothing");
        text(" \n seed \n 5 \n ; \n thread \n a \n : \n set \n 0 \n - \n 5 \n , \n jump \n a \n ; \n ", 0, -1);
        text("cell 3-5;thread a:set 0-5,jump a;", 0, -1);
        for (int sign : new int[] {0, 9, 11, 12, 13, 31, 33, 127, 128, 160, 255}) {
            text("seed " + (char) sign + "5;", 1, 5);
        }
        text("", 0, -1);
        text("\n", 0, -1);
    }

    /**
     * Behind what stands ahead only what is in can: C a clause's word, O an instruction's, N a NAME,
     * n a NUMBER, a sign itself, E the end.
     */
    private static void canStand(String ahead, String in) {
        for (String word : CLAUSES) stand(ahead, word, in.indexOf('C') >= 0, 1);
        for (String word : OPS) stand(ahead, word, in.indexOf('O') >= 0, 1);
        for (String sign : new String[] {";", ",", ":", "-"}) stand(ahead, sign, in.contains(sign), 1);
        stand(ahead, "zz", in.indexOf('N') >= 0, 1);
        stand(ahead, "abcdefgh", in.indexOf('N') >= 0, 1);
        stand(ahead, "abcdefghi", false, in.indexOf('N') >= 0 ? 2 : 1);
        stand(ahead, "2", in.indexOf('n') >= 0, 1);
        stand(ahead, "0002", in.indexOf('n') >= 0, 1);
        stand(ahead, "00002", false, in.indexOf('n') >= 0 ? 2 : 1);
        stand(ahead, "#", false, 1);
        stand(ahead, "S", false, 1);
        stand(ahead, "\t", false, 1);
        boolean isEnd = in.indexOf('E') >= 0;
        text(ahead, isEnd ? 0 : 1, isEnd ? -1 : ahead.length());
        text(ahead + " \n", isEnd ? 0 : 1, isEnd ? -1 : ahead.length() + 2);
    }

    private static void stand(String ahead, String token, boolean can, int fault) {
        String text = ahead + " " + token;
        if (!can) text(text, fault, ahead.length() + 1);
        else if (token.equals(";")) text(text, 0, -1);
        else text(text, 1, text.length());
    }

    private static void whatCanStandInClauses() {
        about("1 a TOKEN that can't stand there, or is none (CLAUSE)");
        canStand("", "CE");
        canStand("thread skip;", "CE");
        canStand("cell 0 0;", "CE");
        for (String word : new String[] {"quantum", "seed", "point", "snaps"}) {
            canStand(word, "n");
            canStand(word + " 2", ";");
        }
        canStand("cell", "n");
        canStand("cell 2", "-n");
        canStand("cell 2 -", "n");
        canStand("cell 2 2", ";");
        canStand("cell 2 - 2", ";");
    }

    private static void whatCanStandInLines() {
        about("1 a TOKEN that can't stand there, or is none (LINE)");
        canStand("thread", "NO");
        canStand("thread a", ":");
        canStand("thread a:", "O");
        canStand("thread skip", ",;");
        canStand("thread a:skip", ",;");
        canStand("thread skip,", "NO");
        canStand("thread skip,a", ":");
        canStand("thread skip,a:", "O");
        canStand("thread a:skip,b:skip", ",;");
    }

    private static void whatCanStandInInstructions() {
        about("1 a TOKEN that can't stand there, or is none (INSTRUCTION)");
        canStand("thread set", "n");
        canStand("thread set 1", "-n");
        canStand("thread set 1 -", "n");
        canStand("thread set 1 1", ",;");
        canStand("thread set 1 -1", ",;");
        for (String op : new String[] {"load", "store", "add", "sub", "mul", "read"}) {
            canStand("thread " + op, "n");
            canStand("thread " + op + " 1", "n");
            canStand("thread " + op + " 1 1", ",;");
        }
        for (String op : new String[] {"lock", "unlock"}) {
            canStand("thread " + op, "n");
            canStand("thread " + op + " 1", ",;");
        }
        canStand("thread jump", "N");
        canStand("thread a:jump a", ",;");
        canStand("thread zero", "n");
        canStand("thread zero 1", "N");
        canStand("thread a:zero 1 a", ",;");
        canStand("thread less", "n");
        canStand("thread less 1", "n");
        canStand("thread less 1 1", "N");
        canStand("thread a:less 1 1 a", ",;");
    }

    private static void minus() {
        about("['-'] NUMBER");
        RecordDesk x = ran("cell 1 -9999;cell 2 - 0;cell 3 9999;thread set 0 -9999,set 1 - 1,set 2 -0,set 3 9999;", 4);
        due("cell(1)", () -> x.cell(1), -9999);
        due("cell(2)", () -> x.cell(2), 0);
        due("cell(3)", () -> x.cell(3), 9999);
        x.seek(4);
        due("set -9999", () -> x.thread(0, 0), -9999);
        due("set - 1", () -> x.thread(0, 1), -1);
        due("set -0", () -> x.thread(0, 2), 0);
        due("set 9999", () -> x.thread(0, 3), 9999);
        text("cell 1 -10000;", 2, 8);
        text("thread set 0 -10000;", 2, 14);
        text("thread set 0 --1;", 1, 14);
        // The '-' of one NUMBER isn't that of the next one.
        text("cell 1 -1;cell 2 -1;thread set 0 -1,set 1 -1;", 0, -1);
        RecordDesk y = desk("cell 1 -1;cell 2 1;");
        due("no '-' of the one ahead", () -> y.cell(2), 1);
    }

    private static void names() {
        about("A NAME is a word of at most 8 letters .. it stands for the INSTRUCTION that it stands ahead of, in its THREAD");
        text("thread abcdefgh:jump abcdefgh;", 0, -1);
        text("thread abcdefghi:skip;", 2, 7);
        text("thread jump abcdefghi;", 2, 12);
        // Names that begin or end alike are unlike.
        text("thread a:skip,aa:skip,ab:skip,ba:skip,abcdefgh:skip,abcdefgz:skip,zbcdefgh:skip;", 0, -1);
        text("thread ap:skip,p:skip,pa:skip,z:skip,az:skip,q:skip,zz:skip,aaaaaaaa:skip,aaaaaaab:skip;", 0, -1);
        text("thread ap:jump p;", 3, 15);
        text("thread aa:jump a;", 3, 15);
        text("thread abcdefg:jump abcdefgh;", 3, 20);
        text("thread abcdefgh:jump abcdefg;", 3, 21);
        text("thread abcdefgh:jump abcdefgz;", 3, 21);
        RecordDesk x = desk("thread skip,a:jump a;thread skip,skip,a:jump a;thread jump a,skip,skip,a:skip;");
        rests(x, 50);
        x.seek(50);
        due("of thread 0", () -> x.thread(0, 4), 1);
        due("of thread 1", () -> x.thread(1, 4), 2);
        due("of thread 2", () -> x.thread(2, 4), 4);
        RecordDesk last = ran("thread a:jump b" + times(",skip", 14) + ",b:jump a;", 2);
        last.seek(1);
        due("the 16th", () -> last.thread(0, 4), 15);
        last.seek(2);
        due("the first", () -> last.thread(0, 4), 0);
    }

    private static void firstAlongTheText() {
        about("FAULTS, the first along the text");
        text("seed 10000;seed 1;#", 2, 5);
        text("seed 1;seed 10000;#", 5, 7);
        text("# seed 10000;", 1, 0);
        text("thread a:skip,a:set 4 1;", 4, 14);
        text("thread a:set 4 1,a:skip;", 2, 13);
        text("cell 1 1;cell 1 10000;", 5, 14);
        text("quantum 0;quantum 0;", 2, 8);
    }

    private static void atTheFirstByte() {
        about("at a TOKEN's first byte");
        text("seed   10000;", 2, 7);
        text("  bad", 1, 2);
        text("thread   abcdefghij:skip;", 2, 9);
        text("thread jump   nowhere  ;", 3, 14);
        text("seed 1;\n\n  seed 2;", 5, 11);
        text("cell 5 1; cell   5 1;", 5, 17);
        text("thread ab:skip,  ab:skip;", 4, 17);
    }

    private static void endsTooSoon() {
        about("the text's length where it ends too soon");
        String tokens = "cell 3 - 12 ; thread a : set 0 - 5 , zero 0 a , less 0 1 a , skip ;";
        String ahead = "";
        for (String token : tokens.split(" ")) {
            ahead += token;
            boolean isWhole = token.equals(";");
            text(ahead, isWhole ? 0 : 1, isWhole ? -1 : ahead.length());
            ahead += " ";
            text(ahead, isWhole ? 0 : 1, isWhole ? -1 : ahead.length());
        }
        text("seed", 1, 4);
        text("seed \n ", 1, 7);
        text("thread a", 1, 8);
    }

    private static void leastOfOneToken() {
        about("of one TOKEN the least");
        // It can't stand there, and is too much: 1. It is too much, and had already: 2.
        text("12345", 1, 0);
        text("thread 12345", 1, 7);
        text("thread skip 12345", 1, 12);
        text("thread lock abcdefghi", 1, 12);
        text("thread a:abcdefghi", 1, 9);
        text("thread a:skip" + times(",skip", 15) + ",a:skip;", 2, 89);
        text(SIXTEEN + ",abcdefghi:skip;", 2, 87);
        text(SIXTEEN + ",seed;", 1, 87);
        text(SIXTEEN + ",5;", 1, 87);
        text(SIXTEEN + ",;", 1, 87);
        text("thread seed 1;seed 1;", 1, 7);
        text(times("thread skip;", 4) + "thread", 2, 48);
    }

    private static void tooLong() {
        about("2 one that can, but is too much: a NUMBER of 5 digits or more, or not as told, a word of 9 letters or more where a NAME can stand");
        text("seed 99999;", 2, 5);
        text("point 00010;", 2, 6);
        text("cell 00001 1;", 2, 5);
        text("cell 1 00001;", 2, 7);
        text("thread lock 00001;", 2, 12);
        text("thread abcdefghi:skip;", 2, 7);
        text("thread abcdefghijklmnopqrstuvwxyz:skip;", 2, 7);
        text("thread a:zero 0 abcdefghi;", 2, 16);
        text("thread a:less 0 0 abcdefghi;", 2, 18);
        text("thread skip,abcdefghi skip;", 2, 12);
        text("abcdefghi;", 1, 0);
        // Its first letters are a word in quotes, and still it is one long word.
        text("thread skipskips;", 2, 7);
        text("thread skipskip;", 1, 15);
    }

    private static void fifthThread() {
        about("2 .. the 5th 'thread'");
        text(times("thread skip;", 4), 0, -1);
        text(times("thread skip;", 5), 2, 48);
        text(times("thread skip;", 4) + "seed 1;  thread", 2, 57);
        text(times("thread skip;", 4) + "cell 0 1;point 2;", 0, -1);
    }

    private static void seventeenthLine() {
        about("2 .. the first TOKEN of the 17th LINE of a THREAD");
        text(SIXTEEN + ", skip;", 2, 88);
        text(SIXTEEN + ",a:skip;", 2, 87);
        text(SIXTEEN + ",set 9 9;", 2, 87);
        text(SIXTEEN + ",", 1, 87);
        text("thread skip;" + SIXTEEN + ";", 0, -1);
        text("thread skip;" + SIXTEEN + ",skip;", 2, 99);
        text(SIXTEEN + ";thread skip,skip;", 0, -1);
    }

    private static void nameTwice() {
        about("4 a NAME that an INSTRUCTION of the THREAD has already, where it stands ahead of one");
        text("thread a:skip,a:skip;", 4, 14);
        text("thread a:skip,b:skip,abc:skip,b:skip;", 4, 30);
        text("thread a:jump a,jump a,jump a;", 0, -1);
        text("thread jump a,a:skip;", 0, -1);
        text("thread a:skip;thread a:skip;thread a:skip;thread a:skip;", 0, -1);
        text("thread a:skip;thread b:skip,b:skip;", 4, 28);
        text("thread abcdefgh:skip,abcdefgh:skip;", 4, 21);
        text("thread abcdefgh:skip,abcdefg:skip;", 0, -1);
    }

    private static void toldAgain() {
        about("5 what is told again: 'quantum', 'seed', 'point', 'snaps' (at the word), a CELL (at the NUMBER)");
        for (String word : new String[] {"quantum", "seed", "point", "snaps"}) {
            text(word + " 2;" + word + " 2;", 5, word.length() + 3);
            text(word + " 2;cell 1 1;thread skip; " + word, 5, word.length() + 25);
            text(word + " 2;" + word + " 99999;", 5, word.length() + 3);
        }
        text("quantum 2;seed 2;point 2;snaps 2;", 0, -1);
        for (int cell = 0; cell < 16; cell++) {
            text("cell " + cell + " 1;cell " + cell + " 1;", 5, 13 + String.valueOf(cell).length());
            text("cell " + cell + " 1;cell " + (cell + 1) % 16 + " 1;", 0, -1);
        }
        text("cell 7 1;cell 007", 5, 14);
        StringBuilder all = new StringBuilder();
        for (int cell = 0; cell < 16; cell++) all.append("cell ").append(cell).append(' ').append(cell + 100).append(';');
        RecordDesk x = desk(all.toString());
        for (int cell = 0; cell < 16; cell++) {
            int c = cell;
            due("cell(" + cell + ")", () -> x.cell(c), cell + 100);
        }
        // What a text ahead told isn't told again by the next one.
        due("the same text again", () -> told(x, "cell 0 1;seed 2;"), 0);
        due("the same text again", () -> told(x, "cell 0 1;seed 2;"), 0);
    }

    private static void noSuchName() {
        about("3, if there is no other: a NAME that no INSTRUCTION of its THREAD has (the first along the text)");
        text("thread jump a;", 3, 12);
        text("thread zero 3 a;", 3, 14);
        text("thread less 3 3 a;", 3, 16);
        text("thread jump a;thread a:skip;", 3, 12);
        text("thread a:skip;thread jump a;", 3, 26);
        text("thread b:jump b,jump c,jump d;", 3, 21);
        text("thread jump b;thread jump c;", 3, 12);
        text("thread jump b;thread jump c;seed 10000;", 2, 33);
        text("thread jump b", 1, 13);
        text("thread jump b;seed 1;seed 1;", 5, 21);
        text("thread jump b,a:skip,a:skip;", 4, 21);
        text("thread jump b;#", 1, 14);
        text("thread skip" + times(",skip", 14) + ",jump b;", 3, 87);
        // A THREAD of sixteen LINES has no NAME of the one behind it; the last one has none behind it.
        String full = "thread skip" + times(",skip", 14) + ",jump b;";
        text(full + "thread b:skip;", 3, 87);
        text(times("thread b:skip;", 3) + full, 3, 3 * 14 + 87);
        text(times(full.replace("jump b", "b:jump b"), 4), 0, -1);
    }

    private static void quotedWordsAreNoNames() {
        about("A word in quotes can't stand where a NAME must");
        for (String[] row : new String[][] {CLAUSES, OPS}) {
            for (String word : row) {
                text("thread a:jump " + word + ";", 1, 14);
                text("thread a:zero 0 " + word + ";", 1, 16);
                text("thread a:less 0 0 " + word + ";", 1, 18);
            }
        }
        for (String word : CLAUSES) text("thread " + word + ":skip;", 1, 7);
        text("thread skip:skip;", 1, 11);
        text("thread lock:skip;", 1, 11);
        text("thread jump:skip;", 1, 11);
        // No word in quotes: 'cells', 'thre', 'sets'.
        text("thread cells:skip,thre:jump cells,sets:jump thre;", 0, -1);
    }

    private static void feedHighestFirst() {
        about("promise 2: Twenty bytes come behind the tape, of each number the highest first");
        RecordDesk x = new RecordDesk();
        due("feed", () -> x.feed(0x73656564, 0x20383736, 0x353b7175, 0x616e7475, 0x6d20393b), 20);
        due("feed", () -> x.feed(0x736e6170, 0x7320383b, 0x63656c6c, 0x20313520, 0x2d34323b), 40);
        due("program(40)", () -> x.program(40), 0);
        due("seed 8765", () -> x.set(1), 8765);
        due("quantum 9", () -> x.set(0), 9);
        due("snaps 8", () -> x.set(3), 8);
        due("cell 15", () -> x.cell(15), -42);
        for (int i = 0; i < 20; i++) {
            int[] w = {0x20202020, 0x20202020, 0x20202020, 0x20202020, 0x20202020};
            // The sign 255 at the i-th byte alone.
            w[i / 4] |= 0xff << 24 - i % 4 * 8;
            x.feed(w[0], w[1], w[2], w[3], w[4]);
            due("program", () -> x.program(20), 1);
            due("byte " + i, x::fault, i);
        }
    }

    private static void feedFull() {
        about("promise 2: NONE, and none come, if it would have more than 700");
        RecordDesk x = new RecordDesk();
        put(x, "seed 77;" + times(" ", 672));
        due("680 bytes", () -> x.count(15), 680);
        due("feed to 700", () -> x.feed(0x20202020, 0x20202020, 0x20202020, 0x20202020, 0x63656c6c), 700);
        due("feed to 720", () -> x.feed(LEAST, MOST, 0, -1, 1), -1);
        due("feed to 720", () -> x.feed(0, 0, 0, 0, 0), -1);
        due("none came", () -> x.count(15), 700);
        due("it is no act", () -> x.count(17), 0);
        illegal("program(701)", () -> x.program(701));
        due("program(700)", () -> x.program(700), 1);
        due("'cell' is the last one", x::fault, 700);
        due("the tape is empty", () -> x.feed(0, 0, 0, 0, 0), 20);
    }

    private static void programAll() {
        about("promise 3: The tape's first n bytes (it is empty then) are a PROGRAM");
        RecordDesk x = new RecordDesk();
        due("program(0) of no tape", () -> x.program(0), 0);
        put(x, "seed 5;seed 6;");
        due("program(7)", () -> x.program(7), 0);
        due("seed", () -> x.set(1), 5);
        due("it is empty", () -> x.count(15), 0);
        illegal("program(1)", () -> x.program(1));
        due("program(0)", () -> x.program(0), 0);
        due("seed without", () -> x.set(1), 1);
        // What was on the tape ahead of it isn't there any more.
        put(x, "seed 1234;seed 1234;seed 1234;");
        x.program(0);
        put(x, "seed 9;");
        due("program(20)", () -> x.program(20), 0);
        due("seed", () -> x.set(1), 9);
    }

    private static void programTooMany() {
        about("promise 3: IllegalArgumentException: the tape has not so many, n below 0 (nothing changes)");
        RecordDesk x = ran("seed 7;" + SIX_SKIPS, 4);
        x.seek(2);
        put(x, "# seed 8;");
        String was = all(x);
        for (int n : new int[] {-1, LEAST, 21, 700, 701, MOST}) {
            illegal("program(" + n + ")", () -> x.program(n));
        }
        same("all", all(x), was);
        due("status 0", () -> x.count(16), 0);
        due("status 1", () -> x.count(17), 0);
        due("program(20)", () -> x.program(20), 1);
        illegal("program(1) behind it", () -> x.program(1));
        due("fault() stays", x::fault, 0);
    }

    private static void programAnew() {
        about("promise 3: all anew (the RECORD, INPUTS, ACTS, the image are gone, CURSOR 0)");
        String text = "point 2;cell 1 5;thread a:read 0 0,store 1 0,jump a;" + SIX_SKIPS;
        RecordDesk fresh = desk(text);
        RecordDesk x = desk("quantum 9;seed 3;snaps 2;cell 0 7;" + LOOP + LOOP + "thread read 0 0,lock 1;");
        x.give(0, 1);
        x.give(1, 1);
        x.steps(40);
        x.steps(60);
        x.seek(20);
        x.image();
        due("program", () -> told(x, text), 0);
        same("all", all(x), all(fresh));
        due("the image is gone", () -> x.restore() ? 1 : 0, 0);
        due("acts are gone", x::undo, -1);
        due("status 1 stays", () -> x.count(17), 1);
        x.give(0, 9);
        fresh.give(0, 9);
        due("steps", () -> x.steps(50), fresh.steps(50));
        x.seek(3);
        fresh.seek(3);
        same("all behind steps", all(x), all(fresh));
    }

    private static void programWithFault() {
        about("promise 3: 0, or the FAULT (all stays, but STATUS)");
        RecordDesk x = desk("point 2;seed 7;thread a:read 0 0,store 1 0,jump a;" + SIX_SKIPS);
        x.give(0, 4);
        x.give(0, 5);
        x.steps(9);
        x.seek(5);
        x.image();
        String was = all(x);
        String[] texts = {"#", "seed 10000;", "thread jump a;", "thread a:skip,a:skip;", "seed 1;seed 2;"};
        for (int code = 1; code <= 5; code++) {
            String text = texts[code - 1];
            int due = code;
            due("program of " + text, () -> told(x, text), due);
            due("status 0", () -> x.count(16), due);
            due("the tape", () -> x.count(15), 0);
        }
        due("fault()", x::fault, 7);
        due("status 1", () -> x.count(17), 0);
        same("all but fault()", all(x).replaceAll("\\|7$", "|-1"), was);
        due("what is given stays", () -> x.count(13), 0);
        due("undo()", x::undo, 2);
        due("the image stays", () -> x.restore() ? 1 : 0, 1);
        due("steps go on", () -> x.steps(3), 3);
    }

    private static void faultPlaces() {
        about("promise 4: The place of the latest program()'s FAULT; NONE without");
        RecordDesk x = new RecordDesk();
        due("fault() at first", x::fault, -1);
        told(x, "seed 1;#");
        due("fault()", x::fault, 7);
        due("fault() again", x::fault, 7);
        told(x, "#");
        due("fault() of the latest", x::fault, 0);
        illegal("program(-1)", () -> x.program(-1));
        due("fault() stays", x::fault, 0);
        x.image();
        told(x, "  #");
        x.restore();
        due("no image has it", x::fault, 2);
        told(x, "");
        due("fault() without", x::fault, -1);
        told(x, "seed " + times(" ", 695));
        due("the greatest place", x::fault, 700);
    }

    private static void newObject() {
        about("promise 1: The PROGRAM of an empty TEXT");
        RecordDesk x = new RecordDesk();
        same("all", all(x), all(desk("")));
        due("steps(1)", () -> x.steps(1), -1);
        due("seek(0)", () -> x.seek(0), 0);
        missing("seek(1)", () -> x.seek(1));
        missing("thread(0, 0)", () -> x.thread(0, 0));
        missing("back(0, 0)", () -> x.back(0, 0));
        missing("on(0, 0)", () -> x.on(0, 0));
        missing("hot(0, 0)", () -> x.hot(0, 0));
        missing("switched(0, 0)", () -> x.switched(0, 0));
        missing("digest(0)", () -> x.digest(0));
        missing("race(0, 0)", () -> x.race(0, 0));
        missing("diverged(0, 0, 0, 0)", () -> x.diverged(0, 0, 0, 0));
        due("outcomes(400, 0)", () -> x.outcomes(400, 0), 1);
        due("outcomes(400, 1)", () -> x.outcomes(400, 1), -1);
        due("toSpare(400, 0)", () -> x.toSpare(400, 0), 1);
        due("toSpare(400, 1)", () -> x.toSpare(400, 1), 0);
        due("matters(0)", () -> x.matters(0), 0);
        due("guards(0)", () -> x.guards(0), 15);
        due("mark()", x::mark, digestOf(0, 0, -1, -1, -1, -1, -1));
        due("give(0, 1)", () -> x.give(0, 1), 1);
    }

    private static void setEdges() {
        about("promise 6: NoSuchElementException: another what");
        RecordDesk x = new RecordDesk();
        missingFor("set", x::set, -1, 4);
    }
}
