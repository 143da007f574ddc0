/** The edges of the tape, of TOKENS, of the grammar and of FAULTS: promises 1 to 5, and Terms. */
public final class EdgesOfTextsTest extends Edges {
    private static final String[] TELL_WORDS = {"row", "list", "ask", "prime", "share", "bag", "bound", "liar"};
    private static final String[] LAW_WORDS = {"if", "then", "else"};
    private static final String[] VARS = {"place", "ahead", "many", "turn", "told", "said"};
    private static final String[] SIGNS = {";", "=", "+", "-", "*", "/", "<", "(", ")"};

    private static final String TELLS = "row list ask prime share bag bound liar";
    private static final String UNIT = "1 ( place ahead many turn told said";
    private static final String GO_ON = "+ - * /";

    // 400 TOKENS, 930 bytes
    private static final String FULL = "liar 1;".repeat(132) + "ask=1;";
    private static final String[] LONG_TELLS = {"row z 1 = 1 + place * ( 2 - 3 ) / 4 ;", "list z 1 - 2 3 ;",
        "ask = if 1 < ( 2 ) then 3 else if 4 * 5 < 6 then turn else ( ( 7 ) ) ;", "prime 7 ;", "share 1 2 ;", "bag 1 ;",
        "bound 1 2 ;", "liar 1 ;"};
    private static final String ROWS6 = "list a;row b 1=1;list c;row d 1=1;list e;list f;";
    private static final String SHARES8 = "share 1 1;share 2 1;share 3 1;share 4 1;share 5 1;share 6 1;share 7 1;"
            + "share 8 1;";
    private static final String BAGS9 = "bag 1;bag 2;bag 3;bag 4;bag 5;bag 6;bag 7;bag 8;bag 9;";
    private static final String IFS4 = "if 1<1 then 1 else ".repeat(4);

    public static void main(String[] args) {
        newObjects();
        tape();
        back();
        readAndPlace();
        blanksAndNone();
        names();
        numbers();
        signs();
        goingOn();
        tokensRoom();
        rowsRoom();
        lawsRoom();
        roomAndSyntax();
        twice();
        wrong();
        wrongShares();
        wrongNumbers();
        order();
        great();
        whatAFaultChanges();
        whatATextDrops();
        close();
    }

    private static void newObjects() {
        edge("NONE = -1", () -> due("NONE", TwoAsks.NONE, -1));
        edge("MISSING = -2000000000000000000", () -> due("MISSING", TwoAsks.MISSING, MISSING));
        edge("1: a new object: nothing is told", () -> {
            TwoAsks x = new TwoAsks();
            int[] counts = {0, 0, 0, 97, 3, 3, 0, 0, 0, 0, -2, 0};
            for (int what = 0; what < counts.length; what++) {
                due("count(" + what + ")", x.count(what), counts[what]);
            }
            due("row", x.row(0, -1), -1000);
            due("fits", x.fits(0, 0, 4, -1), 64);
            due("asks", x.asks(), 1);
            due("forget", x.forget(), 0);
            due("back", x.back(1), -1);
            due("ask", x.ask(0), MISSING);
        });
        edge("5: place: NONE without, of a new object", () -> due("place", new TwoAsks().place(), -1));
        edge("an object is used for 512 calls: the 512th is as due", () -> {
            TwoAsks x = new TwoAsks();
            for (int call = 1; call <= 510; call += 2) {
                due("call " + call, x.tell(call % 99, call), (call - 1) / 2 % 19);
                if ((call - 1) / 2 % 19 == 18) {
                    due("call " + (call + 1), x.forget(), 19);
                } else {
                    due("call " + (call + 1), x.count(7), (call - 1) / 2 % 19 + 1);
                }
            }
            due("call 511", x.tell(0, 1), 8);
            due("call 512", x.fits(1, 20, 4, -1), 64);
        });
    }

    private static void tape() {
        edge("2: feed: twenty bytes, the highest of a first", () -> {
            TwoAsks x = new TwoAsks();
            // list, a 9, 8 7, -, 6; and blanks
            due("feed", x.feed(0x6c697374, 0x20612039, 0x09382037, 0x20202d20, 0x20363b20), 20);
            due("read", x.read(), 0);
            int[] places = {9, 8, 7, -6};
            for (int k = 0; k < places.length; k++) {
                due("row(0, " + k + ")", x.row(0, k), places[k]);
            }
        });
        edge("2: feed: bytes from 128 on come as they are", () -> {
            for (int sign = 128; sign < 256; sign++) {
                for (int at = 0; at < 4; at++) {
                    TwoAsks x = new TwoAsks();
                    x.feed(0x20202020 & ~(255 << 24 - 8 * at) | sign << 24 - 8 * at, 0, 0, 0, 0);
                    due("read", x.read(), 1);
                    due("place", x.place(), at);
                }
            }
        });
        edge("2: feed: how many it has, up to 2,000", () -> {
            TwoAsks x = new TwoAsks();
            for (int i = 1; i <= 100; i++) {
                due("feed", x.feed(0, 0, 0, 0, 0), 20 * i);
            }
            due("count(6)", x.count(6), 2000);
        });
        edge("2: feed: NONE if it would have more than 2,000", () -> {
            TwoAsks x = new TwoAsks();
            feed(x, " ".repeat(2000));
            due("of 2,000", x.feed(0, 0, 0, 0, 0), -1);
            x.back(1);
            due("of 1,999", x.feed(0, 0, 0, 0, 0), -1);
            x.back(18);
            due("of 1,981", x.feed(0, 0, 0, 0, 0), -1);
            x.back(1);
            due("of 1,980", x.feed(0, 0, 0, 0, 0), 2000);
        });
        edge("2: feed: nothing comes then", () -> {
            TwoAsks x = new TwoAsks();
            feed(x, "list a 7;" + " ".repeat(1972));
            due("feed", x.feed(-1, -1, -1, -1, -1), -1);
            due("count(6)", x.count(6), 1981);
            due("read", x.read(), 0);
            due("row(0, 0)", x.row(0, 0), 7);
        });
        edge("A TEXT has 2,000 bytes at most: one of 2,000 is read to its last byte", () -> {
            TwoAsks x = with("bag 1;" + " ".repeat(1984) + "liar    9;");
            due("count(9)", x.count(9), 9);
            fault(" ".repeat(1999) + ";", 1, 1999);
            fault("bag 1" + " ".repeat(1995), 1, 2000);
        });
    }

    private static void back() {
        edge("3: back: the last n bytes go: how many it has", () -> {
            TwoAsks x = new TwoAsks();
            feed(x, "list a 1 2;list b 3;");
            due("back(9)", x.back(9), 11);
            due("read", x.read(), 0);
            due("count(0)", x.count(0), 1);
        });
        edge("3: back: of n 0 nothing goes", () -> {
            TwoAsks x = new TwoAsks();
            due("back(0) of nothing", x.back(0), 0);
            feed(x, "list a 1 2;");
            due("back(0)", x.back(0), 11);
            due("count(6)", x.count(6), 11);
        });
        edge("3: back: all of them may go", () -> {
            TwoAsks x = new TwoAsks();
            feed(x, "?".repeat(2000));
            due("back(2000)", x.back(2000), 0);
            due("read", x.read(), 0);
        });
        edge("3: back: bytes that went are not read", () -> {
            String[][] tapes = {{"bag 1;bag", "gage"}, {"list a 1234", "5;"}, {"list ab", "c;"}, {"bag 1", ";"},
                {"", "bag 1;"}, {"bag 1;", "?"}};
            for (String[] tape : tapes) {
                TwoAsks x = new TwoAsks();
                feed(x, tape[0] + tape[1]);
                due("back", x.back(tape[1].length()), tape[0].length());
                boolean fine = tape[0].isEmpty() || tape[0].endsWith(";");
                due("read of " + tape[0], x.read(), fine ? 0 : 1);
                due("place of " + tape[0], x.place(), fine ? -1 : tape[0].length());
            }
        });
        edge("3: back: NONE, and nothing goes, if it has not so many", () -> {
            TwoAsks x = new TwoAsks();
            due("back(1) of nothing", x.back(1), -1);
            feed(x, "list a 1 2;");
            due("back(12)", x.back(12), -1);
            due("back(greatest)", x.back(GREATEST), -1);
            due("count(6)", x.count(6), 11);
            due("read", x.read(), 0);
            due("row(0, 1)", x.row(0, 1), 2);
        });
        edge("3: back: NONE, and nothing goes, if n is below 0", () -> {
            TwoAsks x = new TwoAsks();
            due("back(-1) of nothing", x.back(-1), -1);
            feed(x, "list a 1 2;");
            due("back(-1)", x.back(-1), -1);
            due("back(least)", x.back(LEAST), -1);
            due("count(6)", x.count(6), 11);
        });
    }

    private static void readAndPlace() {
        edge("4: read: the tape is empty then, with a fault and without", () -> {
            TwoAsks x = new TwoAsks();
            feed(x, "list a 1;");
            due("read", x.read(), 0);
            due("count(6)", x.count(6), 0);
            due("back(1)", x.back(1), -1);
            feed(x, "list a 1");
            due("read", x.read(), 1);
            due("count(6)", x.count(6), 0);
            // what comes now is a text of its own
            feed(x, "list b 2;");
            due("read", x.read(), 0);
            due("row(0, 0)", x.row(0, 0), 2);
        });
        edge("4: read: a tape that is empty, or has blanks alone, is a text", () -> {
            for (String text : new String[] {"", " ", "\n\r\t "}) {
                TwoAsks x = with("list a 1; bag 2;");
                feed(x, text);
                due("read", x.read(), 0);
                due("place", x.place(), -1);
                due("count(0)", x.count(0), 0);
                due("count(2)", x.count(2), 0);
            }
        });
        edge("5: place: of the latest read, NONE without", () -> {
            TwoAsks x = new TwoAsks();
            feed(x, "  ?");
            due("read", x.read(), 1);
            due("place", x.place(), 2);
            feed(x, "bag 1");
            due("place behind a feed", x.place(), 2);
            due("read", x.read(), 1);
            due("place", x.place(), 5);
            due("place again", x.place(), 5);
            due("read of nothing", x.read(), 0);
            due("place", x.place(), -1);
            feed(x, "liar 10;");
            due("read", x.read(), 5);
            due("place", x.place(), 5);
            feed(x, "?");
            x.read();
            due("place 0", x.place(), 0);
        });
    }

    private static void blanksAndNone() {
        edge("blanks are 9, 10, 13, 32, between TOKENS, ahead and behind", () -> {
            for (char blank : new char[] {9, 10, 13, 32}) {
                String b = "" + blank;
                fine(b + "row" + b + "a" + b + "1" + b + "=" + b + "1" + b + "+" + b + "2" + b + ";" + b);
                fault(b + b + "x", 1, 2);
            }
        });
        edge("blanks between or not", () -> {
            TwoAsks x = with("row a2=if place<1then 3else(4+1)*2;list b5-6 07-0008;bag 1;share 1 2;prime7;liar2;");
            due("row(0, 0)", x.row(0, 0), 3);
            due("row(0, 1)", x.row(0, 1), 10);
            int[] places = {5, -6, 7, -8};
            for (int k = 0; k < places.length; k++) {
                due("row(1, " + k + ")", x.row(1, k), places[k]);
            }
            due("count(3)", x.count(3), 7);
            due("count(9)", x.count(9), 2);
        });
        edge("all else is no TOKEN: each byte that is none ends a text with SYNTAX at it", () -> {
            for (int sign = 0; sign < 256; sign++) {
                boolean letter = sign >= 'a' && sign <= 'z';
                boolean digit = sign >= '0' && sign <= '9';
                if (!letter && !digit && ";=+-*/<()\t\n\r ".indexOf(sign) < 0) {
                    fault("bag 1;" + (char) sign, 1, 6);
                    fault("bag" + (char) sign + "1;", 1, 3);
                    fault("list a 1" + (char) sign, 1, 8);
                    fault("list b" + (char) sign + ";", 1, 6);
                }
            }
        });
    }

    private static void names() {
        edge("NAMES: letters a .. z", () -> {
            for (char letter = 'a'; letter <= 'z'; letter++) {
                fine("list " + letter + ";");
                fine("list q" + letter + "q;");
            }
            for (String none : new String[] {"`", "{", "A", "Z", "@", "[", "_", "\u00e1"}) {
                fault("list " + none + ";", 1, 5);
                fault("list a" + none + ";", 1, 6);
            }
        });
        edge("NAMES: 8 at most, a longer one is no TOKEN", () -> {
            fine("list a;");
            fine("list abcdefgh;");
            fine("list zzzzzzzz;");
            fault("list abcdefghi;", 1, 5);
            fault("list " + "z".repeat(60) + ";", 1, 5);
            fault("liarliarl 1;", 1, 0);
        });
        edge("NAMES: none of the words in quotes", () -> {
            for (String[] words : new String[][] {TELL_WORDS, LAW_WORDS, VARS}) {
                for (String word : words) {
                    fault("list " + word + ";", 1, 5);
                    fault("row " + word + " 1=1;", 1, 4);
                }
            }
        });
        edge("NAMES: words with a letter more, less or another one are some", () -> {
            for (String[] words : new String[][] {TELL_WORDS, LAW_WORDS, VARS}) {
                for (String word : words) {
                    fine("list " + word + "x;");
                    fine("list x" + word + ";");
                    fine("list " + word.substring(1) + ";");
                    fine("list " + word.substring(0, word.length() - 1) + ";");
                    fine("list " + word.substring(0, word.length() - 1) + "x;");
                }
            }
        });
        edge("TOKENS, the longest that can be: words that touch are one NAME", () -> {
            fine("list listrow 1;");
            fault("lista 1;", 1, 0);
            fault("bag 1;bagbag 1;", 1, 6);
            fault("row a 1=manymany;", 1, 8);
        });
    }

    private static void numbers() {
        edge("INTS: 1 to 4 digits", () -> {
            TwoAsks x = with("row a 1=9999/1010;row b 1=0001;row c 1=0;bag 7;");
            due("9999 / 1010", x.row(0, 0), 9);
            due("0001", x.row(1, 0), 1);
            due("0", x.row(2, 0), 0);
        });
        edge("INTS: a longer one is no TOKEN", () -> {
            fault("bag 00001;", 1, 4);
            fault("list a 1 10000;", 1, 9);
            fault("row a 1=12345;", 1, 8);
            fault("bag " + "9".repeat(40) + ";", 1, 4);
        });
        edge("INTS: digits 0 .. 9", () -> {
            for (int digit = 0; digit <= 9; digit++) {
                due("row(0, 0)", with("list a " + digit + ";").row(0, 0), digit);
                due("row(0, 1)", with("list a 1 " + digit + digit + ";").row(0, 1), 11 * digit);
            }
            fault("list a :;", 1, 7);
            fault("list a /;", 1, 7);
        });
        edge("INTS: the longest that can be: digits that touch are one", () -> {
            TwoAsks x = with("list a 12 3;");
            due("row(0, -1)", x.row(0, -1), 2);
            due("row(0, 0)", x.row(0, 0), 12);
        });
    }

    private static void signs() {
        edge("SIGNS: each one is a TOKEN of its own, also where they touch", () -> {
            law("((8))*(7+5)/(3-1)-(2)", 46);
            fault("ask==1;", 1, 4);
            fault("ask=1++2;", 1, 6);
            fault("list a --1;", 1, 8);
            fault("bag 1;;", 1, 6);
        });
    }

    /** Ahead of a TOKEN each one of all is tried; those told go on, all others are SYNTAX at their place. */
    private static void goesOn(String text, String those) {
        StringBuilder all = new StringBuilder("a 1");
        for (String[] some : new String[][] {TELL_WORDS, LAW_WORDS, VARS, SIGNS}) {
            for (String one : some) {
                all.append(' ').append(one);
            }
        }
        for (String one : all.toString().split(" ")) {
            String whole = text + one;
            TwoAsks x = new TwoAsks();
            feed(x, whole);
            boolean well = (" " + those + " ").contains(" " + one + " ");
            boolean ends = one.equals(";") && well;
            due("read of " + whole, x.read(), ends ? 0 : 1);
            due("place of " + whole, x.place(), ends ? -1 : well ? whole.length() : text.length());
        }
    }

    private static void goesOnOnly(String text, String those) {
        goesOn(text, those);
        fault(text, 1, text.length());
    }

    private static void goingOn() {
        edge("SYNTAX: what no text begins with", () -> goesOn("", TELLS));
        edge("SYNTAX: behind a TELL", () -> goesOn("bag 1 ; ", TELLS));
        edge("SYNTAX: in a row", () -> {
            goesOnOnly("row ", "a");
            goesOnOnly("row b ", "1");
            goesOnOnly("row b 1 ", "=");
            goesOnOnly("row b 1 = ", "if " + UNIT);
            goesOnOnly("row b 1 = 1 ", GO_ON + " ;");
        });
        edge("SYNTAX: in a list", () -> {
            goesOnOnly("list ", "a");
            goesOnOnly("list b ", "1 - ;");
            goesOnOnly("list b - ", "1");
            goesOnOnly("list b - 1 ", "1 - ;");
            goesOnOnly("list b 1 ", "1 - ;");
        });
        edge("SYNTAX: in ask", () -> {
            goesOnOnly("ask ", "=");
            goesOnOnly("ask = ", "if " + UNIT);
            goesOnOnly("ask = said ", GO_ON + " ;");
        });
        edge("SYNTAX: in prime", () -> {
            goesOnOnly("prime ", "1");
            goesOnOnly("prime 7 ", ";");
        });
        edge("SYNTAX: in share", () -> {
            goesOnOnly("share ", "1");
            goesOnOnly("share 1 ", "1");
            goesOnOnly("share 1 1 ", ";");
        });
        edge("SYNTAX: in bag", () -> {
            goesOnOnly("bag ", "1");
            goesOnOnly("bag 1 ", ";");
        });
        edge("SYNTAX: in bound", () -> {
            goesOnOnly("bound ", "1");
            goesOnOnly("bound 1 ", "1");
            goesOnOnly("bound 1 1 ", ";");
        });
        edge("SYNTAX: in liar", () -> {
            goesOnOnly("liar ", "1");
            goesOnOnly("liar 1 ", ";");
        });
        edge("SYNTAX: in the ifs of a LAW", () -> {
            goesOnOnly("ask = if ", UNIT);
            goesOnOnly("ask = if 1 ", GO_ON + " <");
            goesOnOnly("ask = if 1 < ", UNIT);
            goesOnOnly("ask = if 1 < 2 ", GO_ON + " then");
            goesOnOnly("ask = if 1 < 2 then ", UNIT);
            goesOnOnly("ask = if 1 < 2 then 3 ", GO_ON + " else");
            goesOnOnly("ask = if 1 < 2 then 3 else ", "if " + UNIT);
            goesOnOnly("ask = if 1 < 2 then 3 else 4 ", GO_ON + " ;");
            goesOnOnly("ask = if 1 < 2 then 3 else if ", UNIT);
        });
        edge("SYNTAX: in an E", () -> {
            for (String sign : GO_ON.split(" ")) {
                goesOnOnly("ask = 1 " + sign + " ", UNIT);
                goesOnOnly("ask = 1 " + sign + " 2 ", GO_ON + " ;");
            }
            for (String var : VARS) {
                goesOnOnly("ask = " + var + " ", GO_ON + " ;");
            }
        });
        edge("SYNTAX: in ( and behind )", () -> {
            goesOnOnly("ask = ( ", UNIT);
            goesOnOnly("ask = ( 1 ", GO_ON + " )");
            goesOnOnly("ask = ( 1 * 2 ", GO_ON + " )");
            goesOnOnly("ask = ( 1 ) ", GO_ON + " ;");
            goesOnOnly("ask = ( ( 1 ) ", GO_ON + " )");
            goesOnOnly("ask = if ( 1 ", GO_ON + " )");
            goesOnOnly("ask = if ( 1 ) ", GO_ON + " <");
            goesOnOnly("ask = if 1 < ( 2 ) ", GO_ON + " then");
            goesOnOnly("ask = if 1 < 2 then ( 3 ) ", GO_ON + " else");
        });
        edge("the text's end: its length, blanks behind the last TOKEN too", () -> {
            fault("bag 1", 1, 5);
            fault("bag 1 \n ", 1, 8);
        });
    }

    /** A text of so many TOKENS, 6 or more, without a fault. */
    private static String tokens(int many) {
        int fours = many % 3;
        return "ask=1;".repeat(fours) + "liar 1;".repeat((many - 4 * fours) / 3);
    }

    private static void tokensRoom() {
        edge("ROOM: 400 TOKENS fit", () -> fine(FULL + " \t"));
        edge("ROOM: a 401st TOKEN, whichever one of a TELL it is", () -> {
            for (String tell : LONG_TELLS) {
                String[] tokens = tell.split(" ");
                for (int last = 0; last < tokens.length; last++) {
                    String ahead = tokens(400 - last) + "\n";
                    int place = ahead.length();
                    for (int i = 0; i < last; i++) {
                        place += tokens[i].length() + 1;
                    }
                    fault(ahead + tell, 2, place);
                }
            }
        });
        edge("of one place the least: whichever one it is, if it is none it is SYNTAX", () -> {
            for (String tell : LONG_TELLS) {
                String[] tokens = tell.split(" ");
                StringBuilder text = new StringBuilder("\n");
                for (int last = 0; last < tokens.length; last++) {
                    String ahead = tokens(400 - last) + text;
                    fault(ahead + "? ;", 1, ahead.length());
                    text.append(tokens[last]).append(' ');
                }
            }
        });
        edge("ROOM: a 401st TOKEN, at it", () -> {
            fault(FULL + "bag", 2, 930);
            fault(FULL + "  liar 1;", 2, 932);
            fault("liar 1;".repeat(132) + "ask=(1);", 2, 930);
            fault("liar 1;".repeat(132) + "liar 1;ask=1;", 2, 934);
            fault("liar 1;".repeat(132) + "share 1 2;", 0, -1);
            fault("liar 1;".repeat(132) + "list a 1 ;", 0, -1);
            fault("liar 1;".repeat(132) + "list a -1;", 2, 933);
            fault("bound 1 1;" + "liar 1;".repeat(132) + "bag 1;", 2, 934);
        });
        edge("of one place the least: a 401st TOKEN with which no text goes on is SYNTAX", () -> {
            fault(FULL + ";", 1, 930);
            fault(FULL + "x", 1, 930);
            fault(FULL + "1", 1, 930);
            fault(FULL + "?", 1, 930);
            fault(FULL + "liarliarl", 1, 930);
            fault("liar 1;".repeat(132) + "ask=1 1", 1, 930);
        });
        edge("a text of 400 TOKENS that is not ended: SYNTAX at its end", () -> {
            fault("liar 1;".repeat(132) + "ask=1+", 1, 930);
            fault("liar 1;".repeat(133) + "bag ", 1, 935);
        });
    }

    private static void rowsRoom() {
        edge("ROOM: 6 rows and lists fit", () -> due("count(0)", with(ROWS6).count(0), 6));
        edge("ROOM: a 7th row or list, at its first TOKEN", () -> {
            fault(ROWS6 + " row g 1=1;", 2, ROWS6.length() + 1);
            fault(ROWS6 + "list g;", 2, ROWS6.length());
            fault(ROWS6 + "list", 2, ROWS6.length());
            fault("list a;list b;list c;list d;list e;list f;list ?", 2, 42);
            fault("row a 1=1;row b 1=1;row c 1=1;row d 1=1;row e 1=1;row f 1=1;row", 2, 60);
        });
        edge("ROOM: 8 shares fit", () -> due("count(1)", with(SHARES8).count(1), 8));
        edge("ROOM: a 9th share, at its first TOKEN", () -> {
            fault(SHARES8 + "share 9 1;", 2, 80);
            fault(SHARES8 + "bag 1; share", 2, 87);
            fault("share 0 1;" + SHARES8, 2, 80);
        });
        edge("ROOM: 9 bags fit", () -> due("count(2)", with(BAGS9).count(2), 9));
        edge("ROOM: a 10th bag, at its first TOKEN", () -> {
            fault(BAGS9 + "bag 10;", 2, 54);
            fault(BAGS9 + "liar 1; bag", 2, 62);
        });
        edge("ROOM: 6 numbers of a list fit, of each list", () -> {
            TwoAsks x = with("list a 1 2 3 4 5 6;list b -1 -2 -3 -4 -5 -6;");
            due("row(0, -1)", x.row(0, -1), 6);
            due("row(1, -1)", x.row(1, -1), 6);
            due("row(1, 5)", x.row(1, 5), -6);
        });
        edge("ROOM: a 7th number of a list, at its INT", () -> {
            fault("list a 1 2 3 4 5 6 7;", 2, 19);
            fault("list a 1 2 3 4 5 6  -  7;", 2, 23);
            fault("list a;list b 1 2 3 4 5 6 100;", 2, 26);
        });
        edge("of a 7th number the - is none: SYNTAX behind it", () -> {
            fault("list a 1 2 3 4 5 6 - ;", 1, 21);
            fault("list a 1 2 3 4 5 6 -", 1, 20);
        });
        edge("ROOM is for these alone: ask, prime, bound, liar are told as often as one likes", () -> {
            TwoAsks x = with("ask=1;".repeat(20) + "prime 7;".repeat(30) + "bound 1 2;".repeat(30)
                    + "liar 3;".repeat(30));
            due("count(3)", x.count(3), 7);
        });
    }

    private static void lawsRoom() {
        edge("ROOM: 4 ifs of a LAW fit, of each LAW", () ->
                fine("ask=" + IFS4 + "1;ask=" + IFS4 + "2;row a 1=" + IFS4 + "3;"));
        edge("ROOM: a 5th if of a LAW, at it", () -> {
            fault("ask=" + IFS4 + "if 1<1 then 1 else 1;", 2, 80);
            fault("ask=1;row a 1=" + IFS4 + " if", 2, 91);
        });
        edge("an if that no LAW has there is SYNTAX, a 5th one too", () -> {
            fault("ask=" + IFS4 + "1 if", 1, 82);
            fault("ask=" + IFS4 + "(if", 1, 81);
            fault("ask=" + IFS4 + "1+if", 1, 82);
        });
        edge("ROOM: 6 ( within one another fit, as often as one likes", () -> {
            law("((((((1))))))+((((((2))))))*(3)", 7);
            law("((((((1))+(2))*((2)))+((3))))+(1)", 10);
            fine("ask=if((((((1))))))<((((((2))))))then((((((3))))))else((((((4))))));");
        });
        edge("a LAW in which as much waits as can", () -> {
            law("1+1*(1+1*(1+1*(1+1*(1+1*(1+1*(1+1*2))))))", 9);
            String deep = "9-8/(1+1*(1+1*(1+1*(1+1*(1+1*(1+1*2))))))";
            law("if " + deep + "<" + deep + " then 1 else " + deep, 8);
            law("0" + "+1-1".repeat(97) + "-5", -5);
        });
        edge("ROOM: a 7th ( within one another, at it", () -> {
            fault("ask=(((((((1)))))));", 2, 10);
            fault("ask=((((((1+( ", 2, 12);
            fault("ask=(1)+((((((2)))))*(((((((", 2, 26);
            fault("row a 1=if 1<((((((2))))))then((((((( 3", 2, 36);
        });
        edge("a ( that no LAW has there is SYNTAX, a 7th one too", () -> fault("ask=((((((1(", 1, 11));
    }

    private static void roomAndSyntax() {
        edge("the first by its place: ROOM ahead of SYNTAX", () -> {
            fault(BAGS9 + "bag x;", 2, 54);
            fault("list a 1 2 3 4 5 6 7 x;", 2, 19);
            fault("ask=(((((((?", 2, 10);
        });
        edge("the first by its place: SYNTAX ahead of ROOM", () -> {
            fault("bag ? 1;" + BAGS9 + "bag 1;", 1, 4);
            fault("list a 1 2 3 4 5 x 6 7 8;", 1, 17);
            fault("ask=;ask=(((((((1)))))));", 1, 4);
        });
    }

    private static void twice() {
        edge("TWICE: a NAME told already, at it", () -> {
            fault("list a;list a;", 3, 12);
            fault("row a 1=1;row  a 1=1;", 3, 15);
            fault("row a 1=1;list a;", 3, 15);
            fault("list a;row a 1=1;", 3, 11);
            fault("list abcdefgh;list abcdefgi;list abcdefgh;", 3, 33);
            fault("list a;list b;list c;list d;list e;list a;", 3, 40);
            fault("list a;list b;list c;list d;list e;list e;", 3, 40);
        });
        edge("TWICE: names that are alike but for a letter, or how long they are, are not", () -> {
            fine("list a;list aa;list aaa;list ab;list ba;list b;");
            fine("list abcdefgh;list abcdefg;list bbcdefgh;list abcdefgi;");
            fine("list z;list zz;list zzzzzzzz;list azzzzzzz;list zzzzzzza;");
            for (char one = 'a'; one <= 'z'; one++) {
                char next = one == 'z' ? 'a' : (char) (one + 1);
                String two = "" + one + one;
                fine("list " + one + ";list " + two + ";list " + two + one + ";list " + one + next + ";list " + next
                        + one + ";list " + next + ";");
            }
        });
        edge("TWICE: a text tells its NAMES anew", () -> {
            TwoAsks x = with("list a 1;");
            feed(x, "list a 2;");
            due("read", x.read(), 0);
            due("row(0, 0)", x.row(0, 0), 2);
        });
    }

    private static void wrong() {
        edge("WRONG: a row of 0 PLACES, of more than 6", () -> {
            fault("row a 0=1;", 5, 6);
            fault("row a 7=1;", 5, 6);
            fault("row a  9999=1;", 5, 7);
        });
        edge("a row of 1 .. 6 PLACES", () -> {
            for (int many = 1; many <= 6; many++) {
                due("row(0, -1)", with("row a " + many + "=place;").row(0, -1), many);
            }
        });
        edge("WRONG: a number of a list above 99, at the INT", () -> {
            fault("list a 100;", 5, 7);
            fault("list a 1 2 3 4 5 9999;", 5, 17);
        });
        edge("WRONG: a number of a list below -99, at the INT", () -> {
            fault("list a -100;", 5, 8);
            fault("list a 1 - 9999;", 5, 11);
        });
        edge("numbers of a list -99 .. 99", () -> {
            TwoAsks x = with("list a 99 -99 0 -0 099 -0099;");
            int[] places = {99, -99, 0, 0, 99, -99};
            for (int k = 0; k < places.length; k++) {
                due("row(0, " + k + ")", x.row(0, k), places[k]);
            }
        });
    }

    private static void wrongShares() {
        edge("WRONG: a share at 0, or above 96", () -> {
            fault("share 0 1;", 5, 6);
            fault("share 97 1;", 5, 6);
            fault("share 9999 1;", 5, 6);
        });
        edge("a share at 1, at 96", () -> {
            fine("share 1 1;");
            fine("share 96 1;");
        });
        edge("WRONG: what is shared, above 96", () -> {
            fault("share 1 97;", 5, 8);
            fault("share 1 9999;", 5, 8);
        });
        edge("what is shared: 0, 96", () -> {
            due("0", with("share 1 0;").secret(1), 0);
            due("96", with("share 1 96;").secret(1), 96);
        });
        edge("WRONG: a share at a number where one is already", () -> {
            fault("share 5 1;share 5 1;", 5, 16);
            fault("share 5 1;share 6 1;share 5 2;", 5, 26);
            fault("share 1 1;share 2 1;share 3 1;share 4 1;share 5 1;share 6 1;share 7 1;share 7 0;", 5, 76);
            fault("share 5 1;share 5 97;", 5, 16);
        });
        edge("a share at a number where one was in the text ahead", () -> {
            TwoAsks x = with("share 5 1;");
            feed(x, "share 5 2;");
            due("read", x.read(), 0);
            due("secret", x.secret(1), 2);
        });
    }

    private static void wrongNumbers() {
        edge("WRONG: a PRIME below 2, above 97", () -> {
            fault("prime 0;", 5, 6);
            fault("prime 1;", 5, 6);
            fault("prime 98;", 5, 6);
            fault("prime 101;", 5, 6);
            fault("prime 9973;", 5, 6);
        });
        edge("WRONG: a prime that is none", () -> {
            for (int number = 4; number <= 96; number++) {
                if (!isPrime(number)) {
                    fault("prime " + number + ";", 5, 6);
                }
            }
        });
        edge("a prime 2 .. 97", () -> {
            for (int number = 2; number <= 97; number++) {
                if (isPrime(number)) {
                    due("count(3)", with("prime " + number + ";").count(3), number);
                }
            }
        });
        edge("WRONG: coins above 999", () -> {
            fault("bag 1000;", 5, 4);
            fault("bag 1;bag 9999;", 5, 10);
        });
        edge("coins 0 .. 999", () -> {
            due("999", with("bag 999;").badSet(999, 1), 1);
            due("0", with("bag 0;").bad(0, 1), 2);
        });
        edge("WRONG: BOUND of 0 PLACES, of more than 4", () -> {
            fault("bound 0 3;", 5, 6);
            fault("bound 5 3;", 5, 6);
            fault("bound 0 0;", 5, 6);
        });
        edge("WRONG: a greatest number 0, above 9", () -> {
            fault("bound 3 0;", 5, 8);
            fault("bound 3 10;", 5, 8);
        });
        edge("BOUND: PLACES 1 .. 4, a greatest number 1 .. 9", () -> {
            for (int places = 1; places <= 4; places++) {
                for (int number = 1; number <= 9; number++) {
                    TwoAsks x = with("bound " + places + " " + number + ";");
                    due("count(4)", x.count(4), places);
                    due("count(5)", x.count(5), number);
                    due("world", x.world(0, -1), Math.round(Math.pow(number + 1, places)));
                }
            }
        });
        edge("WRONG: LIAR above 9", () -> {
            fault("liar 10;", 5, 5);
            fault("liar 9999;", 5, 5);
        });
        edge("LIAR 0 .. 9", () -> {
            for (int liar = 0; liar <= 9; liar++) {
                due("count(9)", with("liar " + liar + ";").count(9), liar);
            }
        });
    }

    private static boolean isPrime(int number) {
        boolean prime = number >= 2;
        for (int a = 2; a < number; a++) {
            for (int b = 2; b < number; b++) {
                prime &= a * b != number;
            }
        }
        return prime;
    }

    private static void order() {
        edge("likewise, the first by its place: TWICE ahead of WRONG", () -> {
            fault("list a;list a 100;", 3, 12);
            fault("list a;row a 0=1;liar 10;", 3, 11);
        });
        edge("likewise, the first by its place: WRONG ahead of TWICE", () -> {
            fault("list a 100;list a;", 5, 7);
            fault("liar 10;list a;list a;", 5, 5);
        });
        edge("likewise, the first by its place: of many", () -> {
            fault("list a 1 101 100;", 5, 9);
            fault("share 0 97;", 5, 6);
            fault("bound 5 10;", 5, 6);
            fault("row a 1=1;row b 7=1;row c 8=1;", 5, 16);
            fault("list a;list b;list b;list a;", 3, 19);
        });
        edge("TWICE, WRONG: if there is no SYNTAX, wherever it is", () -> {
            fault("list a;list a;?", 1, 14);
            fault("liar 10", 1, 7);
            fault("prime 4; prime 6; prime", 1, 23);
        });
        edge("TWICE, WRONG: if there is no ROOM, wherever it is", () -> {
            fault("list a;list a;" + BAGS9 + "bag 1;", 2, 68);
            fault("list a 1 2 3 4 5 100 6;", 2, 21);
            fault("liar 10;ask=" + IFS4 + "if", 2, 88);
        });
    }

    private static void great() {
        edge("GREAT: a share whose number is PRIME", () -> fault("prime 7;share 7 1;", 6, 14));
        edge("GREAT: a share whose number is greater", () -> {
            fault("prime 7;share 8 1;", 6, 14);
            fault("prime 89;share 96 1;", 6, 15);
        });
        edge("GREAT: not one less than PRIME", () -> {
            fine("prime 7;share 6 1;");
            fine("prime 97;share 96 1;");
            fine("prime 2;share 1 1;");
        });
        edge("GREAT: at the first such share, at that INT", () -> {
            fault("prime 7;share 1 1;share  9 1;share 8 1;", 6, 25);
            fault("prime 7;share 1 96;share 2 96;share 7 1;", 6, 36);
        });
        edge("GREAT: by a PRIME that is told behind", () -> {
            fault("share 7 1;prime 5;", 6, 6);
            fault("share 4 1;share 5 1;prime 5;", 6, 16);
        });
        edge("GREAT: by the last PRIME of more than one", () -> {
            fine("prime 2;share 7 1;prime 11;");
            fault("prime 11;share 7 1;prime 7;", 6, 15);
        });
        edge("GREAT: if there is none of all these", () -> {
            fault("prime 7;share 8 1;liar 10;", 5, 23);
            fault("prime 7;share 8 1;list a;list a;", 3, 30);
            fault("prime 7;share 8 1;share 8 1;", 5, 24);
            fault("prime 7;share 8 1;bag", 1, 21);
            fault("prime 7;share 8 1;" + BAGS9 + "bag 1;", 2, 72);
        });
    }

    private static final String ALL = "list a 1 2 3;list b 4;bag 1;bag 5;share 1 5;prime 11;bound 2 4;liar 3;ask=7;";

    private static TwoAsks all() {
        TwoAsks x = with(ALL);
        x.hide(1);
        x.ask(2);
        x.hold(1);
        x.tell(3, 4);
        return x;
    }

    private static void faultChanges(String text, int number) {
        TwoAsks x = all();
        String ahead = picture(x);
        feed(x, "list c 9;bag 9;share 2 2;prime 5;bound 1 1;liar 1;ask=1;" + text);
        due("read", x.read(), number);
        same("all", picture(x), ahead);
        due("count(6)", x.count(6), 0);
        due("restore(1)", x.restore(1), true);
        due("count(7)", x.count(7), 1);
        due("the second one asked", x.ask(2), 4);
        due("the third one is 1 more", x.ask(2), 5);
    }

    private static void whatAFaultChanges() {
        edge("a TEXT with SYNTAX changes nothing but the tape", () -> faultChanges("list", 1));
        edge("a TEXT with ROOM changes nothing but the tape", () -> faultChanges("list d 1 2 3 4 5 6 7;", 2));
        edge("a TEXT with TWICE changes nothing but the tape", () -> faultChanges("list c 8;", 3));
        edge("a TEXT with WRONG changes nothing but the tape", () -> faultChanges("liar 10;", 5));
        edge("a TEXT with GREAT changes nothing but the tape", () -> faultChanges("share 96 1;", 6));
        edge("a TEXT behind one with a FAULT has nothing of it", () -> {
            TwoAsks x = new TwoAsks();
            feed(x, "list c 9;bag 9;share 2 2;prime 5;bound 1 1;liar 1;ask=7;?");
            due("read", x.read(), 1);
            feed(x, "list c 8;share 2 1;");
            due("read", x.read(), 0);
            int[] counts = {1, 1, 0, 97, 3, 3, 0, 0, 0, 0, -2, 0};
            for (int what = 0; what < counts.length; what++) {
                due("count(" + what + ")", x.count(what), counts[what]);
            }
            due("row(0, 0)", x.row(0, 0), 8);
            due("row(0, -1)", x.row(0, -1), 1);
            due("asks", x.asks(), 1);
            due("bad", x.bad(9, 1), 0);
            due("badSet", x.badSet(9, 1), -2);
            due("secret", x.secret(1), 1);
        });
        edge("a TEXT behind one with a FAULT in the midst of it is read as any", () -> {
            String[] broken = {"ask=1 1", "ask=1+", "ask=1*", "ask=(1", "ask=((((((1", "ask=(1)", "ask=if", "ask=if 1",
                "ask=if 1<", "ask=if 1<2", "ask=if 1<2 then", "ask=if 1<2 then 3", "ask=if 1<2 then 3 else",
                "ask=" + IFS4, "ask=1+1*(1+1*(1+1*(1+1*(1+1*(1+1*(", "row a 6=place 1", "list a 1 2 3", "list a -",
                "share 1", "bound 1"};
            for (String text : broken) {
                TwoAsks x = new TwoAsks();
                feed(x, text);
                due("read of " + text, x.read(), 1);
                feed(x, "ask=" + IFS4 + "((((((2))))))*3+4*5;row a 2=9-place*8;list b 4;share 1 2;");
                due("read behind " + text, x.read(), 0);
                due("asks behind " + text, x.asks(), 26);
                due("row behind " + text, x.row(0, 1), 1);
                due("list behind " + text, x.row(1, -1), 1);
                feed(x, text);
                due("read of " + text, x.read(), 1);
                feed(x, "ask=2;");
                due("read behind " + text, x.read(), 0);
                due("asks behind " + text, x.asks(), 2);
            }
        });
    }

    private static TwoAsks next(String text) {
        TwoAsks x = all();
        feed(x, text);
        due("read", x.read(), 0);
        return x;
    }

    private static void whatATextDrops() {
        edge("else it is in place of the one ahead: its ROWS, SHARES, BAGS", () -> {
            TwoAsks x = next("list d 6;share 3 1;");
            due("count(0)", x.count(0), 1);
            due("row(0, 0)", x.row(0, 0), 6);
            due("row(0, 1)", x.row(0, 1), -1000);
            due("row(1, 0)", x.row(1, 0), -1000);
            due("count(1)", x.count(1), 1);
            due("secret", x.secret(1), 1);
            due("count(2)", x.count(2), 0);
            due("bad", x.bad(1, 1), 0);
        });
        edge("PRIME 97, if not told", () -> {
            due("count(3)", next("").count(3), 97);
            due("a share at 96", next("share 96 96;").secret(1), 96);
        });
        edge("BOUND 3 and 3, if not told", () -> {
            TwoAsks x = next("bag 1;");
            due("count(4)", x.count(4), 3);
            due("count(5)", x.count(5), 3);
            due("world", x.world(0, -1), 64);
            due("world(63, 2)", x.world(63, 2), 3);
        });
        edge("LIAR 0, if not told", () -> {
            TwoAsks x = next("list a 5;");
            due("count(9)", x.count(9), 0);
            x.hide(0);
            for (int i = 0; i < 10; i++) {
                due("ask", x.ask(i), 5);
            }
        });
        edge("ASK turn + 1, if not told", () -> {
            TwoAsks x = next("");
            for (int turn = 0; turn < 20; turn++) {
                due("asks", x.asks(), turn + 1);
                x.tell(-9, -9);
            }
            due("asks", x.asks(), 21);
            for (int read = 0; read < 5; read++) {
                feed(x, read % 2 == 0 ? "ask=7;" : "bag 1;");
                due("read", x.read(), 0);
                due("asks", x.asks(), read % 2 == 0 ? 7 : 1);
                due("read of nothing", x.read(), 0);
                due("asks", x.asks(), 1);
            }
        });
        edge("its BAGS alone are weighed, however many were told ahead", () -> {
            TwoAsks x = new TwoAsks();
            for (int read = 0; read < 4; read++) {
                feed(x, "bag 1;bag 2;bag 4;");
                due("read", x.read(), 0);
                due("bad", x.bad(6, 1), 1);
                for (int again = 0; again < 2; again++) {
                    feed(x, "bag 1;");
                    due("read", x.read(), 0);
                    for (int off = 2; off <= 7; off++) {
                        due("bad", x.bad(off, 1), 0);
                        due("badSet", x.badSet(off, 1), -2);
                    }
                }
            }
        });
        edge("the last ASK, BOUND, LIAR", () -> {
            TwoAsks x = with("ask=3;ask=4;bound 1 1;bound 2 2;liar 4;liar 0;");
            due("asks", x.asks(), 4);
            due("world", x.world(0, -1), 9);
            due("count(9)", x.count(9), 0);
        });
        edge("the last PRIME", () -> due("count(3)", with("prime 5;prime 3;").count(3), 3));
        edge("nothing is TOLD then", () -> {
            TwoAsks x = next(ALL);
            due("count(7)", x.count(7), 0);
            due("cost(1)", x.cost(1), -1);
            due("forget", x.forget(), 0);
        });
        edge("no ROW is HIDDEN then", () -> {
            TwoAsks x = next(ALL);
            due("count(10)", x.count(10), -2);
            due("count(11)", x.count(11), 0);
            due("ask", x.ask(1), MISSING);
        });
        edge("SLOTS hold nothing then", () -> {
            TwoAsks x = all();
            x.hold(0);
            x.hold(2);
            due("count(8)", x.count(8), 3);
            due("read of nothing", x.read(), 0);
            due("count(8)", x.count(8), 0);
            for (int slot = 0; slot < 3; slot++) {
                due("restore(" + slot + ")", x.restore(slot), false);
            }
        });
        edge("ROWS are numbered from 0 on as they stand", () -> {
            TwoAsks x = with("list f 1;bag 1;row e 2=2;list d 3 3 3;row c 4=4;list b 5;row a 6=6;");
            int[] sizes = {1, 2, 3, 4, 1, 6};
            for (int row = 0; row < sizes.length; row++) {
                due("row(" + row + ", -1)", x.row(row, -1), sizes[row]);
                due("row(" + row + ", 0)", x.row(row, 0), row + 1);
            }
        });
    }
}
