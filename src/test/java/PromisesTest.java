/** Each promise of the document, by answers worked out by hand: ordinary inputs, edges, wrong inputs. */
public final class PromisesTest {
    private static final long MISSING = -2000000000000000000L;
    private static int passed = 0;
    private static int failed = 0;
    private static String about = "";

    private static void due(String call, long got, long due) {
        if (got == due) {
            passed++;
        } else {
            failed++;
            System.out.println(about + ": " + call + " answered " + got + ", due is " + due);
        }
    }

    private static void due(String call, boolean got, boolean due) {
        due(call, got ? 1 : 0, due ? 1 : 0);
    }

    /** The whole text comes behind the tape, blanks that fill twenty bytes go again. */
    private static void feed(TwoAsks x, String text) {
        int pad = (20 - text.length() % 20) % 20;
        String padded = text + " ".repeat(pad);
        for (int at = 0; at < padded.length(); at += 20) {
            int[] w = new int[5];
            for (int i = 0; i < 20; i++) {
                w[i / 4] = w[i / 4] << 8 | padded.charAt(at + i) & 255;
            }
            x.feed(w[0], w[1], w[2], w[3], w[4]);
        }
        x.back(pad);
    }

    private static TwoAsks with(String text) {
        TwoAsks x = new TwoAsks();
        feed(x, text);
        due("read of " + text, x.read(), 0);
        due("place of " + text, x.place(), -1);
        return x;
    }

    private static void fault(String text, int number, int place) {
        TwoAsks x = new TwoAsks();
        feed(x, text);
        due("count(6) of " + text, x.count(6), text.length());
        due("read of " + text, x.read(), number);
        due("place of " + text, x.place(), number == 0 ? -1 : place);
        due("count(6) behind " + text, x.count(6), 0);
    }

    /** What the law of a row tells at its places. */
    private static void law(String law, int... places) {
        TwoAsks x = with("row a " + places.length + " = " + law + ";");
        for (int k = 0; k < places.length; k++) {
            due(law + " at " + k, x.row(0, k), places[k]);
        }
    }

    public static void main(String[] args) {
        tape();
        newObject();
        syntaxFaults();
        roomFaults();
        otherFaults();
        faultChangesNothing();
        textReplaces();
        laws();
        rows();
        comes();
        two();
        figure();
        clash();
        world();
        tell();
        fits();
        sureSpanLiars();
        next();
        onceFew();
        meets();
        game();
        gameByAnswers();
        bags();
        secrets();
        wrong();
        hideAsk();
        asks();
        enough();
        costDegree();
        worldsAt();
        restAlike();
        plusTimes();
        pairs();
        number();
        holdRestore();
        count();
        System.out.println(passed + " passed, " + failed + " failed");
        if (failed > 0) {
            System.exit(1);
        }
    }

    private static void tape() {
        about = "2 and 3";
        TwoAsks x = new TwoAsks();
        for (int i = 1; i <= 99; i++) {
            due("feed", x.feed(i, 0, -1, 7, 8), 20 * i);
        }
        due("back(0)", x.back(0), 1980);
        due("back(1981)", x.back(1981), -1);
        due("back(-1)", x.back(-1), -1);
        due("back(least)", x.back(Integer.MIN_VALUE), -1);
        due("back(greatest)", x.back(Integer.MAX_VALUE), -1);
        due("count(6)", x.count(6), 1980);
        due("feed to the last byte", x.feed(0, 0, 0, 0, 0), 2000);
        due("feed of a full tape", x.feed(0, 0, 0, 0, 0), -1);
        due("back(19)", x.back(19), 1981);
        due("feed where 19 have room", x.feed(0, 0, 0, 0, 0), -1);
        due("count(6)", x.count(6), 1981);
        due("back(1)", x.back(1), 1980);
        due("feed", x.feed(0, 0, 0, 0, 0), 2000);
        due("back(2000)", x.back(2000), 0);
        due("back(1) of nothing", x.back(1), -1);
        // "list", " a 1", " 2 ;", blanks: the highest byte of a comes first
        due("feed", x.feed(0x6c697374, 0x20612031, 0x2032203b, 0x20090a0d, 0x20202020), 20);
        due("read", x.read(), 0);
        due("row(0, 1)", x.row(0, 1), 2);
        due("feed", x.feed(0x62616720, 0x313b2020, 0x20202020, 0x20202020, 0x20202080), 20);
        due("read of a byte above 127", x.read(), 1);
        due("place", x.place(), 19);
        due("feed", x.feed(0xff202020, 0, 0, 0, 0), 20);
        due("read", x.read(), 1);
        due("place", x.place(), 0);
    }

    private static void newObject() {
        about = "1";
        TwoAsks x = new TwoAsks();
        int[] counts = {0, 0, 0, 97, 3, 3, 0, 0, 0, 0, -2, 0, -1};
        for (int what = 0; what < counts.length; what++) {
            due("count(" + what + ")", x.count(what), counts[what]);
        }
        due("place", x.place(), -1);
        due("row(0, -1)", x.row(0, -1), -1000);
        due("asks", x.asks(), 1);
        due("forget", x.forget(), 0);
        due("allTold", x.allTold(), true);
        due("read of nothing", x.read(), 0);
        due("NONE", TwoAsks.NONE, -1);
        due("MISSING", TwoAsks.MISSING, MISSING);
    }

    private static void syntaxFaults() {
        about = "4 and 5, SYNTAX";
        fault("", 0, -1);
        fault(" \t\n\r ", 0, -1);
        fault("x", 1, 0);
        fault(" place", 1, 1);
        fault(";", 1, 0);
        fault("5", 1, 0);
        fault("row", 1, 3);
        fault("row  ", 1, 5);
        fault("row row 1 = 1;", 1, 4);
        fault("row a = 1;", 1, 6);
        fault("rowa 1 = 1;", 1, 0);
        fault("row a1=1;", 0, -1);
        fault("row abcdefgh 1 = 1;", 0, -1);
        fault("row abcdefghi 1 = 1;", 1, 4);
        fault("row said 1 = 1;", 1, 4);
        fault("row A 1 = 1;", 1, 4);
        fault("row a 0001 = 0009;", 0, -1);
        fault("row a 12345 = 1;", 1, 6);
        fault("row a 1 = 12345;", 1, 10);
        fault("row a 1 = 1.;", 1, 11);
        fault("row a 1 1;", 1, 8);
        fault("row a 1 = ;", 1, 10);
        fault("row a 1 = 1", 1, 11);
        fault("row a 1 = 1 2;", 1, 12);
        fault("row a 1 = b;", 1, 10);
        fault("row a 1 = -1;", 1, 10);
        fault("row a 1 = 1 + ;", 1, 14);
        fault("row a 1 = 1 + * 2;", 1, 14);
        fault("row a 1 = (1;", 1, 12);
        fault("row a 1 = ();", 1, 11);
        fault("row a 1 = 1);", 1, 11);
        fault("row a 1 = 1 < 2;", 1, 12);
        fault("row a 1 = (1 < 2);", 1, 13);
        fault("row a 1 = if 1 < 2 then 3;", 1, 25);
        fault("row a 1 = if 1 then 3 else 4;", 1, 15);
        fault("row a 1 = if 1 < 2 < 3 then 3 else 4;", 1, 19);
        fault("row a 1 = if (1 < 2) then 3 else 4;", 1, 16);
        fault("row a 1 = if if 1 < 2 then 3 else 4;", 1, 13);
        fault("row a 1 = if 1 < 2 then if 1 < 2 then 3 else 4 else 5;", 1, 24);
        fault("row a 1 = (if 1 < 2 then 3 else 4);", 1, 11);
        fault("row a 1 = 1 + if 1 < 2 then 3 else 4;", 1, 14);
        fault("row a 1 = if 1 < 2 then 3 else 4 else 5;", 1, 33);
        fault("row a 1 = if 1 < (2 then 3 else 4;", 1, 20);
        fault("ask turn;", 1, 4);
        fault("ask = turn", 1, 10);
        fault("list a - ;", 1, 9);
        fault("list a --1;", 1, 8);
        fault("list a 1, 2;", 1, 8);
        fault("list 1;", 1, 5);
        fault("list a 1 2", 1, 10);
        fault("list a 1 -", 1, 10);
        fault("list a 1 b;", 1, 9);
        fault("prime;", 1, 5);
        fault("prime 5 7;", 1, 8);
        fault("share 1;", 1, 7);
        fault("share 1 2 3;", 1, 10);
        fault("bag -1;", 1, 4);
        fault("bag 1", 1, 5);
        fault("bound 1;", 1, 7);
        fault("bound 1 2 3;", 1, 10);
        fault("liar;", 1, 4);
        fault("bag 1; then", 1, 7);
        fault("bag\u000b1;", 1, 3);
        fault("bag\u000c1;", 1, 3);
        fault("bag\u00001;", 1, 3);
        fault("bag 1;\u0001", 1, 6);
        fault("bag\u00b2;", 1, 3);
    }

    private static void roomFaults() {
        about = "4 and 5, ROOM";
        String tells132 = "liar 1;".repeat(132);
        fault(tells132 + "ask=1;", 0, -1);
        fault(tells132 + "ask=1+", 1, 930);
        fault(tells132 + "ask=1+2;", 2, 930);
        fault(tells132 + "ask=1;bag", 2, 930);
        fault(tells132 + "ask=1;bagg", 1, 930);
        fault(tells132 + "ask=1;?", 1, 930);
        fault(tells132 + "ask=1; \n", 0, -1);
        fault("(".repeat(500), 1, 0);
        fault("liar 1;".repeat(133) + "ask =", 2, 935);
        fault("list a 1;list b 1;list c 1;row d 1=1;list e 1;row f 1=1;", 0, -1);
        fault("list a 1;list b 1;list c 1;row d 1=1;list e 1;row f 1=1; row", 2, 57);
        fault("list a 1;list b 1;list c 1;row d 1=1;list e 1;row f 1=1;list ?", 2, 56);
        String shares = "share 1 1;share 2 1;share 3 1;share 4 1;share 5 1;share 6 1;share 7 1;share 8 1;";
        fault(shares, 0, -1);
        fault(shares + "share", 2, 80);
        String bags = "bag 1;bag 2;bag 3;bag 4;bag 5;bag 6;bag 7;bag 8;bag 9;";
        fault(bags, 0, -1);
        fault(bags + " bag 1;", 2, 55);
        fault("list a 1 2 3 4 5 6;", 0, -1);
        fault("list a 1 2 3 4 5 6 7;", 2, 19);
        fault("list a 1 2 3 4 5 -6 - 7;", 2, 22);
        fault("list a 1 2 3 4 5 6 -;", 1, 20);
        fault("list a 1 2 3 4 5 6 b;", 1, 19);
        String if4 = "if 1<1 then 1 else ".repeat(4);
        fault("ask = " + if4 + "1;", 0, -1);
        fault("ask = " + if4 + "if", 2, 82);
        fault("ask = " + if4 + "1; ask = " + if4 + "1;", 0, -1);
        fault("ask = ((((((1))))));", 0, -1);
        fault("ask = (((((((1)))))));", 2, 12);
        fault("ask = (((((1)))))+((((((1))))))*(1);", 0, -1);
        fault("ask = ((((((1+(2)))))));", 2, 14);
        // the first by its place
        fault("bag 1; bag x; " + bags, 1, 11);
        fault(bags + "bag x;", 2, 54);
    }

    private static void otherFaults() {
        about = "4 and 5, TWICE, WRONG, GREAT";
        fault("row a 1 = 1; list a 1;", 3, 18);
        fault("list a;list b;list a;list b;", 3, 19);
        for (char c = 'a'; c <= 'z'; c++) {
            String two = "list " + c + c;
            fault("list " + c + ";" + two + ";" + two + c + ";list c" + c + "d;list d" + c + "c;", 0, -1);
            fault("list a" + c + "; list a" + c + ";", 3, 14);
        }
        fault("list a; list a 100;", 3, 13);
        fault("list a 100; list a;", 5, 7);
        fault("row a 1 = 1; row a 0 = 1;", 3, 17);
        fault("row a 0 = 1;", 5, 6);
        fault("row a 6 = 1;", 0, -1);
        fault("row a 7 = 1;", 5, 6);
        fault("row a 9999 = 1;", 5, 6);
        fault("row a 1 = 9999;", 0, -1);
        fault("list a 99 -99 -0;", 0, -1);
        fault("list a 1 100;", 5, 9);
        fault("list a 1 - 100;", 5, 11);
        String primes = " 2 3 5 7 11 13 17 19 23 29 31 37 41 43 47 53 59 61 67 71 73 79 83 89 97 ";
        for (int number = 0; number < 130; number++) {
            fault("prime " + number + ";", primes.contains(" " + number + " ") ? 0 : 5, 6);
        }
        fault("prime 9973;", 5, 6);
        fault("share 0 1;", 5, 6);
        fault("share 96 96;", 0, -1);
        fault("share 97 1;", 5, 6);
        fault("share 1 97;", 5, 8);
        fault("share 1 0;share 2 0; share 1 97;", 5, 27);
        fault("share 1 97;share 1 0;", 5, 8);
        fault("bag 0; bag 999;", 0, -1);
        fault("bag 1000;", 5, 4);
        fault("bound 1 1;bound 4 9;", 0, -1);
        fault("bound 0 3;", 5, 6);
        fault("bound 5 0;", 5, 6);
        fault("bound 4 0;", 5, 8);
        fault("bound 4 10;", 5, 8);
        fault("liar 0;liar 9;", 0, -1);
        fault("liar 10;", 5, 5);
        // SYNTAX and ROOM go ahead, wherever they are
        fault("row a 0 = 1; x", 1, 13);
        fault("list a; list a; list", 1, 20);
        fault("liar 10; ask = (((((((1)))))));", 2, 21);
        fault("prime 7; share 6 96; share 1 8;", 0, -1);
        fault("prime 7; share 6 96; share 7 8;", 6, 27);
        fault("share 7 8; share 9 1; prime 7;", 6, 6);
        fault("prime 2; share 1 1; share 2 1; share 3 1;", 6, 26);
        fault("prime 7; share 8 1; liar 10;", 5, 25);
        fault("prime 7; share 8 1; list a; list a;", 3, 33);
        fault("prime 7; share 8 1; prime 11;", 0, -1);
    }

    private static final String FULL = "list a 1 2 3; list b 4; bag 1; bag 5; share 1 5; prime 11; bound 2 4; liar 3;"
            + "ask = 7;";

    private static TwoAsks full() {
        TwoAsks x = with(FULL);
        x.hide(1);
        x.ask(2);
        x.hold(1);
        x.tell(3, 4);
        feed(x, "bag ");
        return x;
    }

    private static void faultChangesNothing() {
        about = "4";
        TwoAsks x = full();
        int[] counts = {2, 1, 2, 11, 2, 4, 4, 2, 1, 3, 1, 1};
        for (int what = 0; what < counts.length; what++) {
            due("count(" + what + ")", x.count(what), counts[what]);
        }
        due("read", x.read(), 1);
        due("place", x.place(), 4);
        counts[6] = 0;
        for (int what = 0; what < counts.length; what++) {
            due("count(" + what + ") behind a fault", x.count(what), counts[what]);
        }
        feed(x, "list c 9; bag 1000; prime 2; bound 1 1; liar 0; ask = 1;");
        due("read", x.read(), 5);
        due("place", x.place(), 14);
        for (int what = 0; what < counts.length; what++) {
            due("count(" + what + ") behind a fault", x.count(what), counts[what]);
        }
        due("row(0, 1)", x.row(0, 1), 2);
        due("asks", x.asks(), 7);
        due("bad", x.bad(6, 1), 1);
        due("secret", x.secret(1), 5);
        due("restore", x.restore(1), true);
        due("count(7)", x.count(7), 1);
        due("worlds", x.world(0, -1), 25);
        due("place stays", x.place(), 14);
    }

    private static void textReplaces() {
        about = "4";
        TwoAsks x = full();
        x.back(4);
        feed(x, "list c 9 8;");
        due("read", x.read(), 0);
        due("place", x.place(), -1);
        int[] counts = {1, 0, 0, 97, 3, 3, 0, 0, 0, 0, -2, 0};
        for (int what = 0; what < counts.length; what++) {
            due("count(" + what + ") behind a text", x.count(what), counts[what]);
        }
        due("row(0, 0)", x.row(0, 0), 9);
        due("row(1, 0)", x.row(1, 0), -1000);
        due("asks", x.asks(), 1);
        due("restore", x.restore(1), false);
        due("ask", x.ask(1), MISSING);
        due("bad", x.bad(6, 1), 0);
        due("worlds", x.world(0, -1), 64);
    }

    private static void laws() {
        about = "6, LAWS";
        law("1 + 2 * 3 - 8 / 2", 3);
        law("20 - 2 - 3", 15);
        law("100 / 7 / 2", 7);
        law("100 / 7 * 7", 98);
        law("2 * (3 + 4) * (5 - 1)", 56);
        law("20 - (2 - 3)", 21);
        law("2 + 3 * 4 * 5", 62);
        law("place", 0, 1, 2, 3, 4, 5);
        law("many", 4, 4, 4, 4);
        law("ahead + 1", 1, 2, 3, 4);
        law("place * 2 + ahead", 0, 2, 6);
        law("turn + told + said", 0, 0);
        law("99 + place", 99, 99);
        law("9999", 99);
        law("0 - 98 - place", -98, -99, -99);
        // what is ahead is held already
        law("if place < 1 then 200 else ahead - 1", 99, 98, 97);
        law("(0 - 7) / 2", -3);
        law("7 / (0 - 2)", -3);
        law("(0 - 7) / (0 - 2)", 3);
        // 2 to the 31 wraps to the least int, and so does its quotient by -1
        law("8192 * 8192 * 32", -99);
        law("(8192 * 8192 * 32 - 1) / 9999 / 9999", 21);
        law("8192 * 8192 * 32 / (0 - 1)", -99);
        law("8192 * 8192 * 64 + 5", 5);
        law("5 + 1 / 0", 0);
        law("5 + 0 * (1 / place)", 0, 5, 5);
        law("5 / place", 0, 5, 2);
        law("if 1 < 2 then 7 else 1 / 0", 7);
        law("if 2 < 1 then 1 / 0 else 7", 7);
        law("if 1 / 0 < 2 then 7 else 8", 0);
        law("if 1 < 2 / 0 then 7 else 8", 0);
        law("if 1 < 2 then 7 else if 1 / 0 < 1 then 8 else 9", 7);
        law("if 2 < 2 then 7 else if 1 / 0 < 1 then 8 else 9", 0);
        law("if place < 2 then place + 10 else if place < 3 then 50 else 60", 10, 11, 50, 60);
        law("if place < 1 then 1 else if place < 2 then 2 else if place < 3 then 3 else if place < 4 then 4 else 5",
                1, 2, 3, 4, 5);
        // as much as can wait at once, and as long as a law can be
        law("1+1*(1+1*(1+1*(1+1*(1+1*(1+1*(1+1*2))))))", 9);
        law("if 9-8/(1+1*(1+1*(1+1*(1+1*(1+1*(1+1*2)))))) < 9-8/(1+1*(1+1*(1+1*(1+1*(1+1*(1+1*2)))))) then 1 else 3", 3);
        law("0" + "+1-1".repeat(97) + "-5", -5);
        law("if 0 - 1 < 0 then 1 else 2", 1);
        law("if 2 < 2 then 1 else 2", 2);
        law("if 1 + 1 < 1 * 3 then (1 + 2) else 2", 3);
    }

    private static void rows() {
        about = "6";
        TwoAsks x = with("list a 5 -6 7 8 9 10; list e; row b 6 = place; list c -0;");
        due("row(0, -1)", x.row(0, -1), 6);
        due("row(0, 0)", x.row(0, 0), 5);
        due("row(0, 1)", x.row(0, 1), -6);
        due("row(0, 5)", x.row(0, 5), 10);
        due("row(0, 6)", x.row(0, 6), -1000);
        due("row(0, -2)", x.row(0, -2), -1000);
        due("row(1, -1)", x.row(1, -1), 0);
        due("row(1, 0)", x.row(1, 0), -1000);
        due("row(2, 5)", x.row(2, 5), 5);
        due("row(3, 0)", x.row(3, 0), 0);
        due("row(3, 1)", x.row(3, 1), -1000);
        due("row(4, -1)", x.row(4, -1), -1000);
        due("row(-1, -1)", x.row(-1, -1), -1000);
    }

    private static void comes() {
        about = "7";
        TwoAsks x = with("list a 1 2 3; list b 99 99 99 99 99 99; list c; list d 4 -1;");
        due("comes(0, 0)", x.comes(0, 0), 1);
        due("comes(0, 1)", x.comes(0, 1), 6);
        due("comes(0, 10)", x.comes(0, 10), 321);
        due("comes(0, -10)", x.comes(0, -10), 281);
        due("comes(1, 999)", x.comes(1, 999), 98604692406297000L);
        due("comes(1, -999)", x.comes(1, -999), -98407483021484406L);
        due("comes(1, 1000)", x.comes(1, 1000), MISSING);
        due("comes(1, -1000)", x.comes(1, -1000), MISSING);
        due("comes(2, 7)", x.comes(2, 7), 0);
        due("comes(3, 9)", x.comes(3, 9), -5);
        due("comes(4, 1)", x.comes(4, 1), MISSING);
        due("comes(-1, 1)", x.comes(-1, 1), MISSING);
    }

    private static void two() {
        about = "8";
        TwoAsks x = with("list a 3 4 2; list b 1 -1 5; list c 99 99 99 99 99 99; list d; list e 60 30 9;"
                + "list f 8;");
        long[][] due = {{9, 10, 243, 3}, {-2, -2, -2, -2}, {594, 595, 7395210560627604L, 4}, {0, 1, 0, 2},
            {99, 100, 93060, 4}, {8, 9, 8, 2}};
        for (int row = 0; row < due.length; row++) {
            for (int what = 0; what < 4; what++) {
                due("two(" + row + ", " + what + ")", x.two(row, what), due[row][what]);
            }
        }
        due("two(0, 4)", x.two(0, 4), -1);
        due("two(0, -1)", x.two(0, -1), -1);
        due("two(1, 4)", x.two(1, 4), -1);
        due("two(6, 0)", x.two(6, 0), -1);
        due("two(-1, 0)", x.two(-1, 0), -1);
        // the second answer's figures tell the row again
        for (int place = 0; place < 3; place++) {
            due("figure of the second answer", x.figure(243, 10, place), x.row(0, place));
        }
    }

    private static void figure() {
        about = "9";
        TwoAsks x = new TwoAsks();
        long great = 1000000000000000000L;
        due("of 0", x.figure(0, 2, 6), 1);
        due("of 0", x.figure(0, 2, 0), 0);
        due("of 0 beyond", x.figure(0, 2, 5), 0);
        due("243 at 2", x.figure(243, 10, 2), 2);
        due("243 at 0", x.figure(243, 10, 0), 3);
        due("243 beyond", x.figure(243, 10, 3), 0);
        due("243", x.figure(243, 10, 6), 3);
        due("999999", x.figure(999999, 10, 6), 6);
        due("999999", x.figure(999999, 10, 5), 9);
        due("1000000", x.figure(1000000, 10, 6), -2);
        due("1000000", x.figure(1000000, 10, 0), -2);
        due("10 to the 18", x.figure(great, 1001, 6), 6);
        due("10 to the 18", x.figure(great, 1000, 6), -2);
        due("10 to the 18", x.figure(great, 9999, 6), 5);
        due("10 to the 18", x.figure(great, 9999, 4), 100);
        due("beyond", x.figure(great + 1, 9999, 6), -1);
        due("below", x.figure(-1, 9999, 6), -1);
        due("base 1", x.figure(5, 1, 6), -1);
        due("base 0", x.figure(5, 0, 6), -1);
        due("base 10000", x.figure(5, 10000, 6), -1);
        due("base 9999", x.figure(9999, 9999, 1), 1);
        due("what 7", x.figure(5, 2, 7), -1);
        due("what -1", x.figure(5, 2, -1), -1);
        due("more than 6, what 7", x.figure(1000000, 10, 7), -1);
    }

    private static void clash() {
        about = "10";
        TwoAsks x = with("bound 2 9;");
        due("clash(0, true)", x.clash(0, true), 10);
        due("clash(0, false)", x.clash(0, false), 0);
        due("clash(1, true)", x.clash(1, true), 10);
        due("clash(1, false)", x.clash(1, false), 1);
        due("clash(9, true)", x.clash(9, true), 10);
        due("clash(9, false)", x.clash(9, false), 9);
        due("clash(10, true)", x.clash(10, true), -2);
        due("clash(10, false)", x.clash(10, false), -2);
        due("clash(999, true)", x.clash(999, true), -2);
        due("clash(1000, true)", x.clash(1000, true), -1);
        due("clash(-1, false)", x.clash(-1, false), -1);
        TwoAsks y = with("bound 1 9;");
        due("clash of one place", y.clash(0, true), -2);
        TwoAsks z = with("bound 4 9;");
        due("clash(9, true) of 4", z.clash(9, true), 10);
        due("clash(10, true) of 4", z.clash(10, true), -2);
        due("clash(999, true) of 4", z.clash(999, true), -2);
    }

    private static void world() {
        about = "11";
        TwoAsks x = with("bound 4 9;");
        due("how many", x.world(-7, -1), 10000);
        due("4321 at 0", x.world(4321, 0), 1);
        due("4321 at 3", x.world(4321, 3), 4);
        due("9999 at 2", x.world(9999, 2), 9);
        due("10000", x.world(10000, 0), -1);
        due("-1", x.world(-1, 0), -1);
        due("place 4", x.world(0, 4), -1);
        due("place -2", x.world(0, -2), -1);
        TwoAsks y = with("bound 3 1;");
        due("how many", y.world(99, -1), 8);
        due("6 at 0", y.world(6, 0), 0);
        due("6 at 1", y.world(6, 1), 1);
        due("8", y.world(8, 0), -1);
        due("place 3", y.world(6, 3), -1);
    }

    private static void tell() {
        about = "12 and 13";
        TwoAsks x = new TwoAsks();
        long great = 1000000000000000L;
        due("tell(100)", x.tell(100, 0), -1);
        due("tell(-100)", x.tell(-100, 0), -1);
        due("too great an answer", x.tell(0, great + 1), -1);
        due("too low an answer", x.tell(0, -great - 1), -1);
        due("the least of all", x.tell(0, Long.MIN_VALUE), -1);
        due("count(7)", x.count(7), 0);
        due("tell(99)", x.tell(99, great), 0);
        due("tell(-99)", x.tell(-99, -great), 1);
        for (int i = 2; i < 20; i++) {
            due("tell", x.tell(1, i), i);
        }
        due("a 21st", x.tell(1, 1), -1);
        due("count(7)", x.count(7), 20);
        due("forget", x.forget(), 20);
        due("count(7)", x.count(7), 0);
        due("forget", x.forget(), 0);
        due("tell", x.tell(1, 1), 0);
    }

    private static void fits() {
        about = "14";
        TwoAsks x = with("bound 2 3;");
        // what comes to 3 by 1: (3,0), (2,1), (1,2), (0,3)
        x.tell(1, 3);
        int[] threes = {3, 6, 9, 12};
        for (int i = 0; i < 4; i++) {
            due("fits(1, 0, 4, " + i + ")", x.fits(1, 0, 4, i), threes[i]);
        }
        due("how many", x.fits(1, 0, 4, -1), 4);
        due("no fifth", x.fits(1, 0, 4, 4), -1);
        due("i -2", x.fits(1, 0, 4, -2), -1);
        due("of none known", x.fits(0, 0, 4, -1), 16);
        due("one place that is not 0", x.fits(1, 0, 1, -1), 2);
        due("the second of them", x.fits(1, 0, 1, 1), 12);
        due("no place that is not 0", x.fits(1, 0, 0, -1), 0);
        due("and none", x.fits(1, 0, 0, 0), -1);
        due("one may be wrong", x.fits(1, 1, 4, -1), 16);
        x.tell(0, 2);
        due("both", x.fits(2, 0, 4, -1), 1);
        due("both", x.fits(2, 0, 4, 0), 6);
        due("the first alone", x.fits(1, 0, 4, -1), 4);
        // 3 more come to 3, 3 more have 2 at place 0
        due("one of two wrong", x.fits(2, 1, 4, -1), 7);
        due("the first of them", x.fits(2, 1, 4, 0), 2);
        due("k 3", x.fits(3, 0, 4, -1), -1);
        due("k -1", x.fits(-1, 0, 4, -1), -1);
        due("w -1", x.fits(1, -1, 4, -1), -1);
        due("w 20", x.fits(1, 20, 4, -1), 16);
        due("w 21", x.fits(1, 21, 4, -1), -1);
        due("s -1", x.fits(1, 0, -1, -1), -1);
        due("s 5", x.fits(1, 0, 5, -1), -1);
        x.tell(1, 1000000000000000L);
        due("none", x.fits(3, 0, 4, -1), 0);
        due("one wrong", x.fits(3, 1, 4, 0), 6);
    }

    private static void sureSpanLiars() {
        about = "15, 16 and 17";
        TwoAsks x = with("bound 3 3;");
        due("sure of nothing known", x.sure(0, 0, 4), 0);
        due("sure of one world", x.sure(0, 0, 0), 7);
        due("span", x.span(0, 0, 4, 2), 3);
        x.tell(0, 2);
        due("sure", x.sure(1, 0, 4), 1);
        due("span of it", x.span(1, 0, 4, 0), 22);
        due("span of another", x.span(1, 0, 4, 1), 3);
        x.tell(1, 7);
        // (2,2,3) and (2,3,2)
        due("sure", x.sure(2, 0, 4), 1);
        due("span", x.span(2, 0, 4, 1), 23);
        due("span", x.span(2, 0, 4, 2), 23);
        due("liars", x.liars(2, 0, 4), 0);
        x.tell(0, 1);
        due("none fit: sure", x.sure(3, 0, 4), 0);
        due("none fit: span", x.span(3, 0, 4, 0), -2);
        due("none fit: no such place", x.span(3, 0, 4, 3), -1);
        due("none fit: liars", x.liars(3, 0, 4), 0);
        // (2,2,3), (2,3,2) and (1,3,3): of the answers by 0 neither is wrong for all
        due("one wrong: sure", x.sure(3, 1, 4), 0);
        due("one wrong: how many", x.fits(3, 1, 4, -1), 3);
        due("one wrong: liars", x.liars(3, 1, 4), 0);
        x.tell(0, 2);
        due("the other one lies", x.liars(4, 1, 4), 4);
        due("sure", x.sure(4, 1, 4), 1);
        x.tell(1, 100);
        due("two lie", x.liars(5, 2, 4), 20);
        due("of 4 known", x.liars(4, 2, 4), 0);
        for (int bad = 0; bad < 6; bad++) {
            int k = bad == 0 ? -1 : bad == 1 ? 6 : 5;
            int w = bad == 2 ? -1 : bad == 3 ? 21 : 2;
            int s = bad == 4 ? -1 : bad == 5 ? 5 : 4;
            due("sure of no such ones", x.sure(k, w, s), -1);
            due("span of no such ones", x.span(k, w, s, 0), -1);
            due("liars of no such ones", x.liars(k, w, s), -1);
            due("next of no such ones", x.next(k, w, s, 0), -1000);
            due("enough of no such ones", x.enough(k, w, s), -1);
        }
        due("place -1", x.span(1, 0, 4, -1), -1);
    }

    private static void next() {
        about = "18";
        TwoAsks x = with("bound 2 2;");
        due("by -9 all differ", x.next(0, 0, 4, 0), -9);
        due("and so each is alone", x.next(0, 0, 4, 1), 1);
        due("of one world", x.next(0, 0, 0, 1), 1);
        due("what 2", x.next(0, 0, 4, 2), -1000);
        due("what -1", x.next(0, 0, 4, -1), -1000);
        x.tell(0, 9);
        due("none fit", x.next(1, 0, 4, 0), -2000);
        due("none fit", x.next(1, 0, 4, 1), -2000);
        due("none fit, what 2", x.next(1, 0, 4, 2), -1000);
        TwoAsks y = with("bound 2 9;");
        // by -9 (0,0) and (9,1) come to the same, by 9 (9,0) and (0,1), by all others more do
        due("two at the most", y.next(0, 0, 4, 1), 2);
        due("the least number of alike ones", y.next(0, 0, 4, 0), -9);
        y.tell(99, 0);
        y.tell(99, 108);
        due("(0,0) or (9,1)", y.fits(2, 1, 4, -1), 2);
        due("not -9 for these", y.next(2, 1, 4, 0), -8);
    }

    private static void onceFew() {
        about = "19 and 20";
        int[] onces = {0, 4, 4, 4};
        for (int places = 1; places <= 4; places++) {
            due("once", with("bound " + places + " 3;").once(), onces[places - 1]);
        }
        due("once", with("bound 4 9;").once(), 10);
        due("once", with("bound 2 1;").once(), 2);
        TwoAsks x = with("bound 4 9;");
        due("few(0)", x.few(0), 1);
        due("few(1)", x.few(1), 2);
        due("few(4)", x.few(4), 3);
        due("few(-1)", x.few(-1), -1);
        due("few(5)", x.few(5), -1);
        TwoAsks y = with("bound 1 9;");
        due("few of one place", y.few(4), 1);
        // (2,0,1) and (0,3,0) come to 3 by 1 and to 6 by 2; no two with one place that is not 0 do so
        TwoAsks z = with("bound 3 3;");
        due("few(1)", z.few(1), 2);
        due("few(2)", z.few(2), 3);
        due("few(3)", z.few(3), 3);
    }

    private static void meets() {
        about = "21";
        TwoAsks x = with("list a 1 2; list b 5; list c 2 2; list d 1 2 0; list e 0 -99; list f 99 -98;");
        due("1 + 2b = 5", x.meets(0, 1), 2);
        due("turned", x.meets(1, 0), 2);
        due("never", x.meets(0, 2), -2);
        due("alike ones", x.meets(0, 3), 0);
        due("99 - 98b = -99b only below 0", x.meets(4, 5), -2);
        due("one and the same", x.meets(2, 2), -1);
        due("no such row", x.meets(0, 6), -1);
        due("no such row", x.meets(-1, 0), -1);
        TwoAsks y = with("list a 99 99 9; list b 0 0 0 1; list c 0 -99 1; list d -99 -90 1; list e 0 9; list f 9 9 9;");
        // b to the 3 = 9 b b + 99 b + 99 at no whole b; -99 b = -99 - 90 b at 11
        due("at no whole number", y.meets(0, 1), -2);
        due("at 11", y.meets(2, 3), 11);
        due("b - 99 = 99", with("list a -99 1; list b 99;").meets(0, 1), 198);
    }

    private static void game() {
        about = "22";
        TwoAsks x = with("bound 2 3; ask = 0 - turn;");
        // by 0: place 0 is told; by -1 then the rest
        due("questions", x.game(6, 0), 2);
        due("figures of 0 and -1", x.game(6, 1), 3);
        due("no such what", x.game(6, 2), -1);
        due("no such what", x.game(6, -1), -1);
        due("no such world", x.game(16, 0), -1);
        due("no such world", x.game(-1, 0), -1);
        due("all are there", x.count(7), 0);
        TwoAsks y = with("bound 2 3; ask = 0;");
        due("50 are not enough", y.game(0, 0), -2);
        due("50 figures", y.game(0, 1), 50);
        TwoAsks z = with("bound 2 9; ask = 0 - 99;");
        due("one question", z.game(99, 0), 1);
        due("three figures", z.game(99, 1), 3);
        TwoAsks l = with("bound 2 3; ask = turn / 49 * 99;");
        due("the 50th tells", l.game(5, 0), 50);
        due("49 noughts and 99", l.game(5, 1), 51);
        TwoAsks m = with("bound 2 3; ask = turn / 50 * 99;");
        due("a 51st would tell", m.game(5, 0), -2);
        due("50 noughts", m.game(5, 1), 50);
        TwoAsks n = with("bound 1 9; liar 1;");
        n.tell(5, 5);
        due("none is wrong, and nothing told counts", n.game(3, 0), 1);
        due("by 1", n.game(3, 1), 1);
    }

    private static void gameByAnswers() {
        about = "22";
        // the first is by 0, the second by what was answered: 0 stays 0, all others tell
        TwoAsks x = with("bound 2 3; ask = told;");
        due("(0,2)", x.game(8, 0), -2);
        due("(3,2)", x.game(11, 0), 2);
        due("figures", x.game(11, 1), 2);
        // by 0, 10, 20
        TwoAsks y = with("bound 2 3; ask = if turn < 1 then 0 else said + 10;");
        due("said", y.game(11, 0), 2);
        due("0 and 10", y.game(11, 1), 3);
        // 99 at first: (3,3) comes to 300, (0,3) to 297
        TwoAsks z = with("bound 1 3; ask = if told < 1 then 0 else 99;");
        due("by 0 at once", z.game(2, 0), 1);
        // wide worlds: the answer to 99 is 9 * 970299 + .., of which the rest by 1000 is told
        TwoAsks w = with("bound 4 1; ask = if turn < 1 then 0 else if told < 1 then 1 else 99;");
        due("(1,0,0,1): 99 is the second one", w.game(9, 0), 2);
        due("(0,0,0,0): by 0 and 1", w.game(0, 0), 2);
        due("(0,0,0,1): by 0, 1 and 99", w.game(8, 0), 3);
        due("figures", w.game(8, 1), 4);
    }

    private static void bags() {
        about = "23, 24, 25 and 41";
        TwoAsks x = with("bag 1; bag 2; bag 3; bag 10;");
        due("bad(3, 1)", x.bad(3, 1), 2);
        due("badSet(3, 1)", x.badSet(3, 1), 3);
        due("bad(30, 10)", x.bad(30, 10), 2);
        due("bad(31, 10)", x.bad(31, 10), 0);
        due("badSet(31, 10)", x.badSet(31, 10), -2);
        due("bad(0, 99)", x.bad(0, 99), 1);
        due("badSet(0, 99)", x.badSet(0, 99), 0);
        due("bad(16, 1)", x.bad(16, 1), 1);
        due("badSet(16, 1)", x.badSet(16, 1), 15);
        due("bad(17, 1)", x.bad(17, 1), 0);
        due("bad(999999, 99)", x.bad(999999, 99), 0);
        due("bad(-1, 1)", x.bad(-1, 1), -1);
        due("bad(1000000, 1)", x.bad(1000000, 1), -1);
        due("bad(3, 0)", x.bad(3, 0), -1);
        due("bad(3, 100)", x.bad(3, 100), -1);
        due("badSet(-1, 1)", x.badSet(-1, 1), -1);
        due("badSet(1000000, 1)", x.badSet(1000000, 1), -1);
        due("badSet(3, 0)", x.badSet(3, 0), -1);
        due("badSet(3, 100)", x.badSet(3, 100), -1);
        due("allTold", x.allTold(), false);
        due("margin", x.margin(), 0);
        TwoAsks y = with("bag 5; bag 10; bag 22;");
        due("allTold", y.allTold(), true);
        // 0 5 10 15 22 27 32 37
        due("margin", y.margin(), 5);
        TwoAsks z = with("bag 998; bag 999;");
        due("margin of 0 998 999 1997", z.margin(), 1);
        TwoAsks one = with("bag 999;");
        due("margin of one", one.margin(), 999);
        TwoAsks nought = with("bag 0;");
        due("bad of a bag of which none are taken", nought.bad(0, 7), 2);
        due("allTold", nought.allTold(), false);
        due("margin", nought.margin(), 0);
        TwoAsks none = new TwoAsks();
        due("margin of none", none.margin(), -2);
        due("allTold of none", none.allTold(), true);
        due("bad of none", none.bad(0, 1), 1);
        due("badSet of none", none.badSet(1, 1), -2);
        TwoAsks most = with("bag 999;bag 999;bag 999;bag 999;bag 999;bag 999;bag 999;bag 999;bag 999;");
        due("all bad by 99", most.bad(890109, 99), 1);
        due("all bad by 99", most.badSet(890109, 99), 511);
        due("four bad", most.bad(3996, 1), 126);
        due("four bad", most.badSet(3996, 1), 15);
        TwoAsks doubled = with("bag 1;bag 2;bag 4;bag 8;bag 16;bag 32;bag 64;bag 128;bag 256;");
        due("allTold", doubled.allTold(), true);
        due("margin", doubled.margin(), 1);
        due("badSet", doubled.badSet(511, 1), 511);
    }

    private static void secrets() {
        about = "26, 27 and 33";
        // 3 + 5 b + 2 b b by 11: 10 at 1, 10 at 2, 3 at 3, 0 at 4
        TwoAsks x = with("prime 11; share 1 10; share 2 10; share 3 3; share 4 0;");
        int[] row = {3, 5, 2, 0};
        for (int set : new int[] {7, 11, 13, 14, 15}) {
            due("secret(" + set + ")", x.secret(set), 3);
            for (int place = 0; place < Integer.bitCount(set); place++) {
                due("shareRow(" + set + ", " + place + ")", x.shareRow(set, place), row[place]);
            }
            due("beyond", x.shareRow(set, Integer.bitCount(set)), -1);
            due("shared(" + set + ", 0)", x.shared(set, 0), 3);
            due("shared(" + set + ", 5)", x.shared(set, 5), 78 % 11);
            due("shared(" + set + ", 96)", x.shared(set, 96), (3 + 5 * 96 + 2 * 96 * 96) % 11);
        }
        due("one share", x.secret(4), 3);
        due("one share at another number", x.shared(4, 9), 3);
        due("two shares", x.secret(3), 10);
        due("two shares", x.shareRow(3, 1), 0);
        due("at -1", x.shared(7, -1), -1);
        due("at 97", x.shared(7, 97), -1);
        due("place -1", x.shareRow(7, -1), -1);
        for (int set : new int[] {0, -1, 16, 17, Integer.MIN_VALUE, Integer.MAX_VALUE}) {
            due("secret(" + set + ")", x.secret(set), -1);
            due("shared(" + set + ", 0)", x.shared(set, 0), -1);
            due("shareRow(" + set + ", 0)", x.shareRow(set, 0), -1);
        }
        x.secret(1);
        due("shared by a set that was not asked for ahead", x.shared(7, 4), 0);
        TwoAsks y = with("share 1 1; share 2 2; share 3 3; share 4 4; share 5 5; share 6 6; share 7 7; share 96 96;");
        due("six", y.secret(63), 0);
        due("six", y.shareRow(252, 1), 1);
        due("seven", y.secret(127), -1);
        due("eight", y.secret(255), -1);
        due("at 96", y.shared(3, 96), 96);
        // what is shared is taken by the prime too
        TwoAsks z = with("prime 2; share 1 96;");
        due("rest of 96", z.secret(1), 0);
        TwoAsks w = with("prime 7; share 1 95; share 6 94;");
        due("4 at 1, 3 at -1", w.secret(3), 0);
        due("4 at 1, 3 at -1", w.shareRow(3, 1), 4);
    }

    private static void wrong() {
        about = "28";
        // 4 + b by 97 but for the third one
        TwoAsks x = with("share 1 5; share 2 6; share 3 50; share 4 8; share 5 9;");
        due("wrong(2)", x.wrong(2), 4);
        due("wrong(3)", x.wrong(3), 4);
        // by any four just four come to their row: the set of the least bits leaves the last one
        due("wrong(4)", x.wrong(4), 16);
        due("wrong(5)", x.wrong(5), 0);
        due("wrong(6)", x.wrong(6), -2);
        due("wrong(0)", x.wrong(0), -1);
        due("wrong(7)", x.wrong(7), -1);
        // by one share each comes to itself alone: that of the least bits is the first one
        due("wrong(1)", x.wrong(1), 30);
        TwoAsks y = with("prime 7; share 1 8; share 2 1; share 3 3; share 4 10;");
        due("1, 1, 3, 3: the set of the least bits", y.wrong(1), 12);
        // the rows by shares 0 and 1, and by 2 and 3, come to two each; so do all others
        due("wrong(2)", y.wrong(2), 12);
        due("none at all", new TwoAsks().wrong(1), -2);
        due("none at all, no such n", new TwoAsks().wrong(0), -1);
    }

    private static void hideAsk() {
        about = "29 and 30";
        TwoAsks x = with("list a 1 2; list b 5; liar 3;");
        due("ask of nothing", x.ask(1), MISSING);
        x.tell(1, 1);
        due("hide(2)", x.hide(2), false);
        due("hide(-1)", x.hide(-1), false);
        due("count(7)", x.count(7), 1);
        due("count(10)", x.count(10), -2);
        due("hide(0)", x.hide(0), true);
        due("nothing is told", x.count(7), 0);
        due("count(10)", x.count(10), 0);
        due("ask(100)", x.ask(100), MISSING);
        due("ask(-100)", x.ask(-100), MISSING);
        due("count(11)", x.count(11), 0);
        due("ask(99)", x.ask(99), 199);
        due("ask(-99)", x.ask(-99), -197);
        due("count(7)", x.count(7), 2);
        x.tell(1, 1);
        due("count(11)", x.count(11), 2);
        due("the third asked one is 1 more", x.ask(1), 4);
        due("count(7)", x.count(7), 4);
        due("it is told as it was answered", x.asks(), 5);
        due("ask(1)", x.ask(1), 3);
        x.forget();
        due("count(11)", x.count(11), 4);
        due("count(10)", x.count(10), 0);
        due("the fifth", x.ask(1), 3);
        due("the sixth", x.ask(0), 2);
        due("hide(0) again", x.hide(0), true);
        due("count(11)", x.count(11), 0);
        due("first", x.ask(0), 1);
        due("hide(2) does nothing", x.hide(2), false);
        due("count(10)", x.count(10), 0);
        due("second", x.ask(0), 1);
        due("third", x.ask(0), 2);
        due("hide(1)", x.hide(1), true);
        for (int i = 1; i <= 20; i++) {
            due("ask " + i, x.ask(i), i % 3 == 0 ? 6 : 5);
        }
        due("a 21st", x.ask(1), MISSING);
        due("count(11)", x.count(11), 20);
        due("forget", x.forget(), 20);
        due("the 21st", x.ask(1), 6);
        TwoAsks y = with("list a 7; bound 1 9;");
        y.hide(0);
        for (int i = 0; i < 10; i++) {
            due("none is wrong", y.ask(i), 7);
        }
        due("and so it is known", y.fits(10, 0, 4, 0), 7);
        TwoAsks z = with("list a 7; liar 1;");
        z.hide(0);
        due("each is wrong", z.ask(0), 8);
        due("each is wrong", z.ask(0), 8);
    }

    private static void asks() {
        about = "31";
        TwoAsks x = with("ask = told;");
        due("nothing told", x.asks(), 0);
        x.tell(5, -12034);
        due("its rest, with its sign", x.asks(), -34);
        x.tell(5, 1000000000000000L);
        due("of 10 to the 15", x.asks(), 0);
        x.tell(5, 1999);
        due("held to 99", x.asks(), 99);
        x.tell(5, -1999);
        due("held to -99", x.asks(), -99);
        TwoAsks y = with("ask = said * 10 + turn;");
        due("nothing told", y.asks(), 0);
        y.tell(7, 0);
        due("71", y.asks(), 71);
        y.tell(-5, 0);
        due("-48", y.asks(), -48);
        y.forget();
        due("nothing told", y.asks(), 0);
        TwoAsks z = with("ask = 1; ask = place + ahead + many + 3;");
        due("the last one counts", z.asks(), 3);
        TwoAsks d = with("ask = 5 / turn;");
        due("divided by 0", d.asks(), 0);
        d.tell(0, 0);
        due("divided by 1", d.asks(), 5);
    }

    private static void enough() {
        about = "32";
        TwoAsks x = with("bound 2 4;");
        due("25 fit", x.enough(0, 0, 4), -2);
        due("9 fit", x.enough(0, 0, 1), 1);
        due("one fits", x.enough(0, 0, 0), 0);
        x.tell(0, 9);
        due("none fits", x.enough(1, 0, 4), 0);
        due("no such s", x.enough(0, 0, 5), -1);
        TwoAsks y = with("bound 1 9;");
        due("10 fit", y.enough(0, 0, 4), 1);
        // each answer by 99 is of one world alone: for each number some two of these come to the same
        TwoAsks z = with("bound 2 9;");
        for (int b = 1; b <= 9; b++) {
            z.tell(99, b);
        }
        z.tell(99, 99);
        due("(1,0) .. (9,0) and (0,1)", z.fits(10, 9, 4, -1), 10);
        due("these by -1", z.enough(10, 9, 4), 1);
        z.tell(99, 0);
        for (int b = 1; b <= 9; b++) {
            z.tell(99, 99 + b);
        }
        due("(0 .. 9, 0) and (0 .. 9, 1)", z.fits(20, 19, 4, -1), 20);
        due("one is not enough, two are", z.enough(20, 19, 4), 2);
        due("19 of them, the first 19: -9 alone", z.enough(19, 18, 4), 1);
        TwoAsks w = with("bound 2 9;");
        for (int b = 0; b <= 8; b++) {
            w.tell(99, b);
        }
        for (int b = 0; b <= 9; b++) {
            w.tell(99, 99 + b);
        }
        due("(0 .. 8, 0) and (0 .. 9, 1): 9 alone", w.enough(19, 18, 4), 1);
        // 10 with 1 at place 0, 10 with 2, and 4 or 5 more that come to 5 or 6 by 1
        TwoAsks v = with("bound 2 9;");
        v.tell(0, 1);
        v.tell(0, 2);
        v.tell(1, 5);
        due("24 fit", v.fits(3, 2, 4, -1), 24);
        due("24 are not too many", v.enough(3, 2, 4), 1);
        v.forget();
        v.tell(0, 1);
        v.tell(0, 2);
        v.tell(1, 6);
        due("25 fit", v.fits(3, 2, 4, -1), 25);
        due("25 are too many", v.enough(3, 2, 4), -2);
    }

    private static void costDegree() {
        about = "34 and 35";
        TwoAsks x = with("list a 1 0 3 0; list b; list c 0 0; row d 6 = place - 6; list e 4;");
        due("cost(0)", x.cost(0), 0);
        x.tell(0, 5);
        x.tell(-5, 5);
        x.tell(10, 5);
        x.tell(-99, 5);
        int[] costs = {0, 1, 3, 5, 8};
        for (int k = 0; k < costs.length; k++) {
            due("cost(" + k + ")", x.cost(k), costs[k]);
        }
        due("cost(5)", x.cost(5), -1);
        due("cost(-1)", x.cost(-1), -1);
        int[] degrees = {2, -2, -2, 5, 0};
        for (int row = 0; row < degrees.length; row++) {
            due("degree(" + row + ")", x.degree(row), degrees[row]);
        }
        due("degree(5)", x.degree(5), -1);
        due("degree(-1)", x.degree(-1), -1);
    }

    private static void worldsAt() {
        about = "36";
        TwoAsks x = with("bound 2 3;");
        int[] sums = {1, 2, 3, 4, 3, 2, 1, 0};
        for (int sum = 0; sum < sums.length; sum++) {
            due("worldsAt(1, " + sum + ")", x.worldsAt(1, sum), sums[sum]);
        }
        due("by 0", x.worldsAt(0, 3), 4);
        due("by -1", x.worldsAt(-1, -3), 1);
        due("by 99", x.worldsAt(99, 300), 1);
        due("by -99", x.worldsAt(-99, -294), 1);
        due("by 100", x.worldsAt(100, 0), -1);
        due("by -100", x.worldsAt(-100, 0), -1);
        due("far off", x.worldsAt(1, Long.MIN_VALUE), 0);
        due("of four places", with("bound 4 9;").worldsAt(1, 18), 670);
    }

    private static void restAlike() {
        about = "37 and 38";
        TwoAsks x = with("prime 7; list a 1 2 3; list b -8; list c 1 2 3; list d 6;");
        due("rest(0, 2)", x.rest(0, 2), 3);
        due("rest(0, 96)", x.rest(0, 96), (1 + 2 * 96 + 3 * 96 * 96) % 7);
        due("rest(0, 0)", x.rest(0, 0), 1);
        due("of a number below 0", x.rest(1, 5), 6);
        due("rest(0, 97)", x.rest(0, 97), -1);
        due("rest(0, -1)", x.rest(0, -1), -1);
        due("rest(4, 0)", x.rest(4, 0), -1);
        due("rest(-1, 0)", x.rest(-1, 0), -1);
        due("alike ones", x.alike(0, 2), 7);
        due("alike by 7", x.alike(1, 3), 7);
        // 3 b b + 2 b + 2 by 7: 2 0 4 0 2 3 3
        due("alike(0, 1)", x.alike(0, 1), 2);
        due("turned", x.alike(1, 0), 2);
        due("one and the same", x.alike(1, 1), -1);
        due("no such row", x.alike(1, 4), -1);
        due("no such row", x.alike(-1, 1), -1);
        TwoAsks y = with("list a 0 1; list b 0 0 1;");
        due("by 97: 0 and 1", y.alike(0, 1), 2);
        due("rest by 97", y.rest(1, 10), 3);
    }

    private static void plusTimes() {
        about = "39 and 40";
        TwoAsks x = with("list a 1 2 3; list b 4 -5; list c; list d 99 99 99 99 99 99;");
        int[] sum = {5, -3, 3, 0, 0, 0, 0, 0, 0, 0, 0};
        int[] product = {4, 3, 2, -15, 0, 0, 0, 0, 0, 0, 0};
        int[] square = {9801, 19602, 29403, 39204, 49005, 58806, 49005, 39204, 29403, 19602, 9801};
        for (int place = 0; place <= 10; place++) {
            due("plus(0, 1, " + place + ")", x.plus(0, 1, place), sum[place]);
            due("plus(1, 0, " + place + ")", x.plus(1, 0, place), sum[place]);
            due("times(0, 1, " + place + ")", x.times(0, 1, place), product[place]);
            due("times(1, 0, " + place + ")", x.times(1, 0, place), product[place]);
            due("times(3, 3, " + place + ")", x.times(3, 3, place), square[place]);
            due("times(3, 2, " + place + ")", x.times(3, 2, place), 0);
            due("plus(3, 3, " + place + ")", x.plus(3, 3, place), place < 6 ? 198 : 0);
        }
        int[][] wrongOnes = {{0, 1, 11}, {0, 1, -1}, {4, 0, 0}, {0, 4, 0}, {-1, 0, 0}, {0, -1, 0}};
        for (int[] of : wrongOnes) {
            due("plus of no such ones", x.plus(of[0], of[1], of[2]), -100000);
            due("times of no such ones", x.times(of[0], of[1], of[2]), -100000);
        }
    }

    private static void pairs() {
        about = "42 and 43";
        TwoAsks x = new TwoAsks();
        long great = 1000000000000000000L;
        int y = 0;
        int onDiagonal = 0;
        for (int v = 0; v < 50; v++) {
            due("unpair(" + v + ", false)", x.unpair(v, false), onDiagonal - y);
            due("unpair(" + v + ", true)", x.unpair(v, true), y);
            due("pair of it", x.pair(onDiagonal - y, y), v);
            y++;
            if (y > onDiagonal) {
                y = 0;
                onDiagonal++;
            }
        }
        due("pair(999999999, 999999999)", x.pair(999999999, 999999999), 1999999998000000000L);
        due("pair(999999999, 0)", x.pair(999999999, 0), 499999999500000000L);
        due("and back", x.unpair(499999999500000000L, false), 999999999);
        due("and back", x.unpair(499999999500000000L, true), 0);
        due("one less", x.unpair(499999999499999999L, false), 0);
        due("one less", x.unpair(499999999499999999L, true), 999999998);
        // 1414213561 * 1414213562 / 2 is the last triangle up to 10 to the 18
        due("10 to the 18, y", x.unpair(great, true), great - 1414213561L * 1414213562L / 2);
        due("10 to the 18, x", x.unpair(great, false), 1414213561L - (great - 1414213561L * 1414213562L / 2));
        due("beyond", x.unpair(great + 1, false), -1);
        due("-1", x.unpair(-1, false), -1);
        due("least", x.unpair(Long.MIN_VALUE, true), -1);
        due("greatest", x.unpair(Long.MAX_VALUE, true), -1);
        due("x -1", x.pair(-1, 0), -1);
        due("y -1", x.pair(0, -1), -1);
        due("x too great", x.pair(1000000000, 0), -1);
        due("y too great", x.pair(0, 1000000000), -1);
    }

    private static void number() {
        about = "44";
        TwoAsks x = with("list a 2 3; list b 7; list c 1 0 2; list d 99 99 99 99; list e 1 2 3 4 5; list f 1 -1;");
        due("of two", x.number(0), 18);
        due("of one", x.number(1), 7);
        // 1 and 0 are 1, 1 and 2 are 3 * 4 / 2 + 2
        due("of three", x.number(2), 8);
        due("of four", x.number(3), x.pair((int) x.pair((int) x.pair(99, 99), 99), 99));
        due("of four", x.number(3), 19601059214288475L);
        due("of five", x.number(4), -2);
        due("below 0", x.number(5), -2);
        due("no such row", x.number(6), -1);
        due("no such row", x.number(-1), -1);
        TwoAsks y = with("list a; list b 1 2 3 4 -5;");
        due("of none", y.number(0), -2);
        due("of five", y.number(1), -2);
    }

    private static void holdRestore() {
        about = "45 and 46";
        TwoAsks x = with("list a 1 2; liar 2; bound 2 3;");
        due("restore(0)", x.restore(0), false);
        x.tell(1, 3);
        x.tell(0, 2);
        due("hold(0)", x.hold(0), true);
        due("hold(3)", x.hold(3), false);
        due("hold(-1)", x.hold(-1), false);
        due("count(8)", x.count(8), 1);
        x.forget();
        due("hold(2) of nothing", x.hold(2), true);
        due("count(8)", x.count(8), 2);
        x.tell(0, 1);
        due("restore(1)", x.restore(1), false);
        due("restore(3)", x.restore(3), false);
        due("restore(-1)", x.restore(-1), false);
        due("nothing happened", x.count(7), 1);
        due("restore(0)", x.restore(0), true);
        due("count(7)", x.count(7), 2);
        due("fits", x.fits(2, 0, 4, 0), 6);
        due("tell goes on", x.tell(5, 5), 2);
        due("restore(0) again", x.restore(0), true);
        due("the slot is as it was", x.count(7), 2);
        due("restore(2)", x.restore(2), true);
        due("count(7)", x.count(7), 0);
        due("hold(0) over it", x.hold(0), true);
        due("count(8)", x.count(8), 2);
        due("restore(0)", x.restore(0), true);
        due("count(7)", x.count(7), 0);
        // what is hidden, and how often it was asked, are not in a slot
        x.hide(0);
        due("the slots stay", x.count(8), 2);
        x.ask(1);
        x.hold(1);
        x.ask(1);
        x.ask(1);
        due("restore(1)", x.restore(1), true);
        due("count(7)", x.count(7), 1);
        due("count(11)", x.count(11), 3);
        due("the fourth", x.ask(1), 4);
        feed(x, "list b 1;");
        due("read", x.read(), 0);
        for (int slot = 0; slot < 3; slot++) {
            due("restore behind a text", x.restore(slot), false);
        }
    }

    private static void count() {
        about = "47";
        TwoAsks x = full();
        int[] counts = {2, 1, 2, 11, 2, 4, 4, 2, 1, 3, 1, 1};
        for (int what = 0; what < counts.length; what++) {
            due("count(" + what + ")", x.count(what), counts[what]);
        }
        due("count(12)", x.count(12), -1);
        due("count(-1)", x.count(-1), -1);
        due("count(least)", x.count(Integer.MIN_VALUE), -1);
        // the last ones count
        TwoAsks y = with("bound 2 4; liar 3; prime 7; bound 1 2; liar 5; prime 13;");
        due("count(3)", y.count(3), 13);
        due("count(4)", y.count(4), 1);
        due("count(5)", y.count(5), 2);
        due("count(9)", y.count(9), 5);
    }
}
