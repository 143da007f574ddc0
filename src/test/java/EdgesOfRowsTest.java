/** The edges of ROWS and their LAWS, of what they COME TO, of figures and pairs: promises 6 to 9, 21, 35, 37 to 44. */
public final class EdgesOfRowsTest extends Edges {
    private static final long MOST_SPLIT = 1000000000000000000L;
    // 2 to the 31, which wraps to the least int
    private static final String LEAST_INT = "8192*8192*32";

    public static void main(String[] args) {
        row();
        laws();
        lawsThatWrap();
        lawsOverNought();
        vars();
        comes();
        two();
        twoFigures();
        figure();
        meets();
        degree();
        rest();
        alike();
        plus();
        times();
        pair();
        unpair();
        number();
        close();
    }

    private static void row() {
        edge("6: row: place NONE: how many PLACES", () -> {
            TwoAsks x = with("list a 1 2 3 4 5 6;list b;row c 1=7;");
            due("row(0, -1)", x.row(0, -1), 6);
            due("row(1, -1)", x.row(1, -1), 0);
            due("row(2, -1)", x.row(2, -1), 1);
        });
        edge("6: row: the first PLACE, the last one", () -> {
            TwoAsks x = with("list a 1 2 3 4 5 6;row c 6=10+place;");
            due("row(0, 0)", x.row(0, 0), 1);
            due("row(0, 5)", x.row(0, 5), 6);
            due("row(1, 0)", x.row(1, 0), 10);
            due("row(1, 5)", x.row(1, 5), 15);
        });
        edge("6: row: -1000: no such ROW", () -> {
            TwoAsks x = with("list a 1;list b 2;");
            for (int row : new int[] {-1, 2, 6, LEAST, GREATEST}) {
                due("row(" + row + ", 0)", x.row(row, 0), -1000);
                due("row(" + row + ", -1)", x.row(row, -1), -1000);
            }
            due("of a new object", new TwoAsks().row(0, 0), -1000);
        });
        edge("6: row: -1000: no such PLACE", () -> {
            TwoAsks x = with("list a 1 2;list b;list c 1 2 3 4 5 6;");
            for (int place : new int[] {-2, 2, 6, LEAST, GREATEST}) {
                due("row(0, " + place + ")", x.row(0, place), -1000);
            }
            due("row(1, 0)", x.row(1, 0), -1000);
            due("row(2, 6)", x.row(2, 6), -1000);
        });
    }

    private static void laws() {
        edge("what the LAW tells is held to 99", () -> {
            law("98+place", 98, 99, 99);
            law("9999", 99);
        });
        edge("what the LAW tells is held to -99", () -> {
            law("0-98-place", -98, -99, -99);
            law("0-9999", -99);
        });
        edge("the E of the first if that holds", () ->
                law("if place<2 then 10 else if place<3 then 20 else if place<3 then 30 else if 0<place then 40"
                        + " else 50", 10, 10, 20, 40, 40));
        edge("an if holds if one is less than the other, not if they are alike", () -> {
            law("if place<2 then 1 else 2", 1, 1, 2, 2);
            law("if 2<place then 1 else 2", 2, 2, 2, 1);
            law("if 0-1<0 then 1 else 2", 1);
            law("if 0-2<0-2 then 1 else 2", 2);
        });
        edge("else the last one", () ->
                law("if 1<1 then 1 else if 2<1 then 2 else if 1<0 then 3 else if 0<0-1 then 4 else 5", 5));
        edge("a LAW without an if", () -> law("7", 7, 7));
        edge("PARTS ahead of E, each from the left on", () -> {
            law("20-2-3", 15);
            law("20-2+3", 21);
            law("90/3/2", 15);
            law("90/4*4", 88);
            law("2+3*4-8/2", 10);
            law("(2+3)*(9-5)", 20);
        });
        edge("/ rounded towards 0", () -> {
            law("7/2", 3);
            law("(0-7)/2", -3);
            law("7/(0-2)", -3);
            law("(0-7)/(0-2)", 3);
            law("1/2", 0);
            law("(0-1)/2", 0);
        });
    }

    private static void lawsThatWrap() {
        edge("ints of 32 bits that wrap: *", () -> {
            law(LEAST_INT, -99);
            law("8192*8192*64+5", 5);
            // 999700029999 less 233 times 2 to the 32 is -1027349969
            law("9999*9999*9999/9999/9999", -10);
        });
        edge("ints of 32 bits that wrap: +", () -> {
            law(LEAST_INT + "+" + LEAST_INT + "+7", 7);
            law("(" + LEAST_INT + "-1+1)/9999/9999", -21);
        });
        edge("ints of 32 bits that wrap: -", () -> {
            law("(" + LEAST_INT + "-1)/9999/9999", 21);
            law("0-" + LEAST_INT, -99);
        });
        edge("ints of 32 bits that wrap: /", () -> law(LEAST_INT + "/(0-1)", -99));
        edge("ints of 32 bits that wrap: what an if looks at", () -> {
            law("if " + LEAST_INT + "<0 then 1 else 2", 1);
            law("if " + LEAST_INT + "-1<0 then 1 else 2", 2);
            // the least is less than the greatest, though their difference wraps
            law("if " + LEAST_INT + "<" + LEAST_INT + "-1 then 1 else 2", 1);
        });
    }

    private static void lawsOverNought() {
        edge("a LAW in which something is divided by 0 is 0", () -> {
            law("5+1/0", 0);
            law("5+0/0", 0);
            law("5+0*(1/place)", 0, 5, 5);
            law("5/(place-1)", -5, 0, 5);
        });
        edge("divided by 0 in what an if looks at: 0", () -> {
            law("if 1/0<2 then 7 else 8", 0);
            law("if 0<1/0 then 7 else 8", 0);
            law("if 2<1 then 7 else if 1/0<1 then 8 else 9", 0);
        });
        edge("what is not looked at may be divided by 0", () -> {
            law("if 1<2 then 7 else 1/0", 7);
            law("if 2<1 then 1/0 else 7", 7);
            law("if 1<2 then 7 else if 1/0<1 then 1/0 else 1/0", 7);
        });
    }

    private static void vars() {
        edge("ahead: 0 at PLACE 0, then the number at the PLACE ahead", () -> law("ahead*2+1", 1, 3, 7, 15, 31, 63));
        edge("ahead: as it is held", () -> {
            law("if place<1 then 200 else ahead-1", 99, 98, 97);
            law("if place<1 then 0-200 else ahead+1", -99, -98, -97);
        });
        edge("place, many in a row", () -> law("10*many+place", 60, 61, 62, 63, 64, 65));
        edge("turn, told, said are 0 in a row", () -> {
            TwoAsks x = new TwoAsks();
            x.tell(7, 8);
            feed(x, "row a 2=turn+10*told+100*said;");
            due("read", x.read(), 0);
            due("row(0, 0)", x.row(0, 0), 0);
            due("row(0, 1)", x.row(0, 1), 0);
            law("1/turn+9", 0);
            law("1/told+9", 0);
            law("1/said+9", 0);
        });
        edge("place, ahead, many are 0 in ASK", () -> {
            TwoAsks x = with("row a 6=place+ahead+many;ask=place+2*ahead+3*many;");
            due("asks", x.asks(), 0);
            x.tell(5, 6);
            due("asks", x.asks(), 0);
        });
        edge("turn: how many were asked; told, said: 0 ahead of all", () -> {
            TwoAsks x = with("ask=50*turn+told+said+3;");
            due("asks", x.asks(), 3);
            x.tell(-2, 7);
            due("asks", x.asks(), 58);
            x.forget();
            due("asks", x.asks(), 3);
        });
        edge("told: the rest by 1000, with its sign", () -> {
            TwoAsks x = with("ask=told/11;");
            long[][] due = {{999, 90}, {1000, 0}, {1999, 90}, {-999, -90}, {-1000, 0}, {-1999, -90},
                {1000000000000000L, 0}, {999999999999999L, 90}, {-999999999999999L, -90}};
            for (long[] one : due) {
                x.tell(0, one[0]);
                due("asks behind " + one[0], x.asks(), one[1]);
            }
        });
        edge("said: the last number said", () -> {
            TwoAsks x = with("ask=said;");
            for (int said : new int[] {99, -99, 0, -1}) {
                x.tell(said, 5);
                due("asks", x.asks(), said);
            }
        });
        edge("ASK is held to -99 .. 99", () -> {
            TwoAsks x = with("ask=said+told;");
            x.tell(99, 0);
            due("99", x.asks(), 99);
            x.tell(99, 1);
            due("100", x.asks(), 99);
            x.tell(-99, 0);
            due("-99", x.asks(), -99);
            x.tell(-99, -1);
            due("-100", x.asks(), -99);
        });
        edge("ASK in which something is divided by 0 is 0", () -> {
            TwoAsks x = with("ask=5/turn+7;");
            due("asks", x.asks(), 0);
            x.tell(1, 1);
            due("asks", x.asks(), 12);
        });
    }

    private static void comes() {
        edge("7: comes: b -999, 999", () -> {
            TwoAsks x = with("list a 1 2 3;list b 99 99 99 99 99 99;list c -99 -99 -99 -99 -99 -99;");
            due("comes(0, 999)", x.comes(0, 999), 1 + 2 * 999 + 3 * 999 * 999);
            due("comes(0, -999)", x.comes(0, -999), 1 - 2 * 999 + 3 * 999 * 999);
            due("comes(1, 999)", x.comes(1, 999), 98604692406297000L);
            due("comes(2, 999)", x.comes(2, 999), -98604692406297000L);
            due("comes(2, -999)", x.comes(2, -999), 98407483021484406L);
        });
        edge("7: comes: MISSING: no such b", () -> {
            TwoAsks x = with("list a 1 2 3;");
            for (int b : new int[] {-1000, 1000, LEAST, GREATEST}) {
                due("comes(0, " + b + ")", x.comes(0, b), MISSING);
            }
        });
        edge("7: comes: MISSING: no such ROW", () -> {
            TwoAsks x = with("list a 1;list b 2;");
            for (int row : new int[] {-1, 2, LEAST, GREATEST}) {
                due("comes(" + row + ", 1)", x.comes(row, 1), MISSING);
            }
            due("of a new object", new TwoAsks().comes(0, 0), MISSING);
        });
        edge("b to the 0 is 1: by 0 a ROW comes to its first PLACE", () -> {
            TwoAsks x = with("list a 7 8 9;list b -7;list c 0 5;");
            due("comes(0, 0)", x.comes(0, 0), 7);
            due("comes(1, 0)", x.comes(1, 0), -7);
            due("comes(2, 0)", x.comes(2, 0), 0);
            due("comes(1, 999)", x.comes(1, 999), -7);
        });
        edge("a ROW of no PLACES comes to 0", () -> {
            TwoAsks x = with("list a 5;list b;");
            for (int b : new int[] {-999, -1, 0, 1, 999}) {
                due("comes(1, " + b + ")", x.comes(1, b), 0);
            }
        });
    }

    private static void two() {
        edge("8: two: -2: some PLACE is below 0", () -> {
            TwoAsks x = with("list a -1;list b 1 2 3 4 5 -1;list c -99 0;list d 9 -1 9;");
            for (int row = 0; row < 4; row++) {
                for (int what = 0; what < 4; what++) {
                    due("two(" + row + ", " + what + ")", x.two(row, what), -2);
                }
            }
        });
        edge("8: two: none is below 0 if all are 0", () -> {
            TwoAsks x = with("list a 0;list b 0 0 0 0 0 0;");
            for (int row = 0; row < 2; row++) {
                due("two(" + row + ", 0)", x.two(row, 0), 0);
                due("two(" + row + ", 1)", x.two(row, 1), 1);
                due("two(" + row + ", 2)", x.two(row, 2), 0);
                due("two(" + row + ", 3)", x.two(row, 3), 2);
            }
        });
        edge("8: two: of a ROW of no PLACES", () -> {
            TwoAsks x = with("list a;");
            int[] due = {0, 1, 0, 2};
            for (int what = 0; what < 4; what++) {
                due("two(0, " + what + ")", x.two(0, what), due[what]);
            }
        });
        edge("8: two: the greatest", () -> {
            TwoAsks x = with("list a 99 99 99 99 99 99;");
            due("two(0, 0)", x.two(0, 0), 594);
            due("two(0, 1)", x.two(0, 1), 595);
            due("two(0, 2)", x.two(0, 2), 7395210560627604L);
            due("two(0, 3)", x.two(0, 3), 4);
        });
        edge("8: two: -1: no such ROW", () -> {
            TwoAsks x = with("list a 1;list b 2;");
            for (int row : new int[] {-1, 2, LEAST, GREATEST}) {
                due("two(" + row + ", 0)", x.two(row, 0), -1);
            }
            due("of a new object", new TwoAsks().two(0, 0), -1);
        });
        edge("8: two: -1: no such what", () -> {
            TwoAsks x = with("list a 1;");
            for (int what : new int[] {-1, 4, LEAST, GREATEST}) {
                due("two(0, " + what + ")", x.two(0, what), -1);
            }
        });
        edge("8: two: where NONE and -2 could both be told, it is NONE", () -> {
            TwoAsks x = with("list a -1;");
            due("two(0, 4)", x.two(0, 4), -1);
            due("two(0, -1)", x.two(0, -1), -1);
        });
    }

    private static void twoFigures() {
        edge("FIGURES: digits of both numbers said, where one more comes", () -> {
            TwoAsks x = with("list a 8;list b 9;list c 98;list d 99;list e 99 1;");
            int[] due = {2, 3, 3, 4, 4};
            for (int row = 0; row < due.length; row++) {
                due("two(" + row + ", 3)", x.two(row, 3), due[row]);
            }
        });
        edge("FIGURES: 0 has one", () -> {
            TwoAsks x = new TwoAsks();
            x.tell(0, 5);
            due("cost(1)", x.cost(1), 1);
        });
        edge("FIGURES: a sign is one more", () -> {
            TwoAsks x = new TwoAsks();
            int[] said = {-1, 1, -9, 9, -10, 10, -99, 99};
            int[] due = {2, 3, 5, 6, 9, 11, 14, 16};
            for (int i = 0; i < said.length; i++) {
                x.tell(said[i], 0);
                due("cost(" + (i + 1) + ")", x.cost(i + 1), due[i]);
            }
        });
    }

    private static void figure() {
        TwoAsks x = new TwoAsks();
        edge("9: figure: 0 has one PLACE", () -> {
            due("how many", x.figure(0, 2, 6), 1);
            due("how many", x.figure(0, 9999, 6), 1);
            due("the first", x.figure(0, 2, 0), 0);
        });
        edge("9: figure: none more if the rest is 0", () -> {
            due("1", x.figure(1, 2, 6), 1);
            due("9", x.figure(9, 10, 6), 1);
            due("10", x.figure(10, 10, 6), 2);
            due("99999", x.figure(99999, 10, 6), 5);
            due("100000", x.figure(100000, 10, 6), 6);
            due("20", x.figure(20, 10, 0), 0);
            due("20", x.figure(20, 10, 1), 2);
        });
        edge("9: figure: 0 beyond", () -> {
            for (int what = 1; what <= 5; what++) {
                due("7 at " + what, x.figure(7, 10, what), 0);
                due("0 at " + what, x.figure(0, 10, what), 0);
            }
            due("43 at 1", x.figure(43, 10, 1), 4);
            due("43 at 2", x.figure(43, 10, 2), 0);
        });
        edge("9: figure: 6 PLACES are not too many", () -> {
            for (int what = 0; what <= 5; what++) {
                due("654321", x.figure(654321, 10, what), what + 1);
            }
            due("how many", x.figure(999999, 10, 6), 6);
            due("how many", x.figure(63, 2, 6), 6);
            due("how many", x.figure(32, 2, 6), 6);
        });
        edge("9: figure: -2: more than 6", () -> {
            for (int what = 0; what <= 6; what++) {
                due("1000000 at " + what, x.figure(1000000, 10, what), -2);
                due("64 by 2 at " + what, x.figure(64, 2, what), -2);
            }
            due("10 to the 18", x.figure(MOST_SPLIT, 2, 0), -2);
        });
        edge("9: figure: v 10 to the 18", () -> {
            due("by 9999", x.figure(MOST_SPLIT, 9999, 6), 5);
            due("by 1000", x.figure(MOST_SPLIT, 1000, 6), -2);
            due("by 1001", x.figure(MOST_SPLIT, 1001, 6), 6);
        });
        edge("9: figure: NONE: no such v", () -> {
            for (long v : new long[] {-1, MOST_SPLIT + 1, Long.MIN_VALUE, Long.MAX_VALUE}) {
                due("figure(" + v + ")", x.figure(v, 9999, 0), -1);
                due("figure(" + v + ")", x.figure(v, 9999, 6), -1);
            }
        });
        edge("9: figure: b 2, 9999", () -> {
            due("5 by 2", x.figure(5, 2, 2), 1);
            due("5 by 2", x.figure(5, 2, 1), 0);
            due("9998 by 9999", x.figure(9998, 9999, 0), 9998);
            due("9998 by 9999", x.figure(9998, 9999, 6), 1);
            due("9999 by 9999", x.figure(9999, 9999, 1), 1);
        });
        edge("9: figure: NONE: no such b", () -> {
            for (int b : new int[] {1, 0, -1, -2, 10000, LEAST, GREATEST}) {
                due("figure by " + b, x.figure(5, b, 0), -1);
                due("figure by " + b, x.figure(0, b, 6), -1);
            }
        });
        edge("9: figure: NONE: no such what", () -> {
            for (int what : new int[] {-1, 7, LEAST, GREATEST}) {
                due("figure at " + what, x.figure(5, 10, what), -1);
            }
        });
        edge("9: figure: where NONE and -2 could both be told, it is NONE", () -> {
            due("what 7", x.figure(1000000, 10, 7), -1);
            due("what -1", x.figure(1000000, 10, -1), -1);
        });
    }

    private static void meets() {
        edge("21: meets: by 0", () -> {
            TwoAsks x = with("list a 1 2;list b 1 3;list c;list d 0 1;");
            due("meets(0, 1)", x.meets(0, 1), 0);
            due("meets(2, 3)", x.meets(2, 3), 0);
        });
        edge("21: meets: the first b of more than one", () -> {
            // b b + 2 and 3 b are alike by 1 and 2; b b + 6 and 5 b by 2 and 3
            TwoAsks x = with("list a 2 0 1;list b 0 3;list c 6 0 1;list d 0 5;");
            due("meets(0, 1)", x.meets(0, 1), 1);
            due("meets(2, 3)", x.meets(2, 3), 2);
        });
        edge("21: meets: rows that are alike: by 0", () -> {
            TwoAsks x = with("list a 1 2;list b 1 2 0;list c;list d;");
            due("meets(0, 1)", x.meets(0, 1), 0);
            due("meets(2, 3)", x.meets(2, 3), 0);
        });
        edge("21: meets: by as great a b as there can be", () ->
                due("meets", with("list a -99 1;list b 99;").meets(0, 1), 198));
        edge("21: meets: -2: by none of these", () -> {
            TwoAsks x = with("list a 1;list b 2;list c 0 2;");
            due("never", x.meets(0, 1), -2);
            due("by a half alone", x.meets(0, 2), -2);
        });
        edge("21: meets: -2: by none of these, but by one below 0", () -> {
            TwoAsks x = with("list a 0 1;list b -1;list c 1 1;list d;");
            due("by -1", x.meets(0, 1), -2);
            due("by -1", x.meets(2, 3), -2);
        });
        edge("21: meets: NONE: no such ROW", () -> {
            TwoAsks x = with("list a 1;list b 1;");
            for (int row : new int[] {-1, 2, LEAST, GREATEST}) {
                due("meets(0, " + row + ")", x.meets(0, row), -1);
                due("meets(" + row + ", 0)", x.meets(row, 0), -1);
                due("meets of two", x.meets(row, row), -1);
            }
        });
        edge("21: meets: NONE: one and the same", () -> {
            TwoAsks x = with("list a 1;list b 1;");
            due("meets(0, 0)", x.meets(0, 0), -1);
            due("meets(1, 1)", x.meets(1, 1), -1);
            due("meets(0, 1)", x.meets(0, 1), 0);
        });
    }

    private static void degree() {
        edge("35: degree: the last PLACE that is not 0", () -> {
            TwoAsks x = with("list a 1 1 1 1 1 1;list b 1 0 -1 0;list c 5;list d 0 0 0 0 0 -1;list e 1 0 0 0 0 0;");
            int[] due = {5, 2, 0, 5, 0};
            for (int row = 0; row < due.length; row++) {
                due("degree(" + row + ")", x.degree(row), due[row]);
            }
        });
        edge("35: degree: -2: there is none: all are 0", () -> {
            TwoAsks x = with("list a 0;list b 0 0 0 0 0 0;");
            due("degree(0)", x.degree(0), -2);
            due("degree(1)", x.degree(1), -2);
        });
        edge("35: degree: -2: there is none: no PLACES", () ->
                due("degree(0)", with("list a;list b 1;").degree(0), -2));
        edge("35: degree: NONE: no such ROW", () -> {
            TwoAsks x = with("list a 1;list b 1;");
            for (int row : new int[] {-1, 2, LEAST, GREATEST}) {
                due("degree(" + row + ")", x.degree(row), -1);
            }
        });
    }

    private static void rest() {
        edge("37: rest: b 0, 96", () -> {
            TwoAsks x = with("prime 89;list a 5 1 2;");
            due("rest(0, 0)", x.rest(0, 0), 5);
            // 96 is 7 by 89
            due("rest(0, 96)", x.rest(0, 96), (5 + 7 + 98) % 89);
        });
        edge("37: rest: NONE: no such b", () -> {
            TwoAsks x = with("list a 5 1 2;");
            for (int b : new int[] {-1, 97, LEAST, GREATEST}) {
                due("rest(0, " + b + ")", x.rest(0, b), -1);
            }
        });
        edge("37: rest: NONE: no such ROW", () -> {
            TwoAsks x = with("list a 5;list b 6;");
            for (int row : new int[] {-1, 2, LEAST, GREATEST}) {
                due("rest(" + row + ", 0)", x.rest(row, 0), -1);
            }
        });
        edge("37: rest: 0 and more, of what is below 0", () -> {
            TwoAsks x = with("prime 7;list a -1;list b -7;list c -8;list d -99 -99 -99 -99 -99 -99;");
            due("rest(0, 1)", x.rest(0, 1), 6);
            due("rest(1, 1)", x.rest(1, 1), 0);
            due("rest(2, 1)", x.rest(2, 1), 6);
            // 96 is 5 by 7, whose powers are 1 5 4 6 2 3; -99 times 21 is 0
            due("rest(3, 96)", x.rest(3, 96), 0);
            due("rest(3, 0)", x.rest(3, 0), 6);
        });
        edge("37: rest: PRIME itself is 0, one less is not", () -> {
            TwoAsks x = with("prime 2;list a 2;list b 1;list c;");
            due("rest(0, 5)", x.rest(0, 5), 0);
            due("rest(1, 5)", x.rest(1, 5), 1);
            due("rest(2, 5)", x.rest(2, 5), 0);
        });
    }

    private static void alike() {
        edge("38: alike: 0 and PRIME - 1 count, PRIME doesn't", () -> {
            TwoAsks x = with("prime 5;list a 0 1;list b;list c 1 1;list d 6 0 4;");
            due("b alone by 0", x.alike(0, 1), 1);
            due("b + 1 alone by 4", x.alike(2, 1), 1);
            due("(b + 1)(4 b + 1): by 1 and 4", x.alike(3, 1), 2);
        });
        edge("38: alike: by all, by none", () -> {
            TwoAsks x = with("prime 5;list a 1;list b 6;list c 2;list d 1 -1 0 0 0 1;");
            due("by all", x.alike(0, 1), 5);
            due("by none", x.alike(0, 2), 0);
            // b to the 5 is b
            due("by all", x.alike(0, 3), 5);
            due("of 97", with("list a;list b;").alike(0, 1), 97);
            due("of 2", with("prime 2;list a;list b 0 1;").alike(0, 1), 1);
        });
        edge("38: alike: of what is below 0", () -> {
            TwoAsks x = with("prime 5;list a -1;list b 4;list c -6 5;");
            due("alike(0, 1)", x.alike(0, 1), 5);
            due("alike(2, 1)", x.alike(2, 1), 5);
        });
        edge("38: alike: NONE: no such ROW", () -> {
            TwoAsks x = with("list a 5;list b 6;");
            for (int row : new int[] {-1, 2, LEAST, GREATEST}) {
                due("alike(0, " + row + ")", x.alike(0, row), -1);
                due("alike(" + row + ", 0)", x.alike(row, 0), -1);
                due("alike of two", x.alike(row, row), -1);
            }
        });
        edge("38: alike: NONE: one and the same", () -> {
            TwoAsks x = with("list a 5;list b 5;");
            due("alike(0, 0)", x.alike(0, 0), -1);
            due("alike(1, 1)", x.alike(1, 1), -1);
            due("alike(0, 1)", x.alike(0, 1), 97);
        });
    }

    private static void plus() {
        edge("39: plus: 0 beyond", () -> {
            TwoAsks x = with("list a 1 2 3;list b 10;list c;");
            int[] due = {11, 2, 3, 0, 0, 0, 0, 0, 0, 0, 0};
            for (int place = 0; place <= 10; place++) {
                due("plus(0, 1, " + place + ")", x.plus(0, 1, place), due[place]);
                due("plus(1, 0, " + place + ")", x.plus(1, 0, place), due[place]);
                due("plus(2, 2, " + place + ")", x.plus(2, 2, place), 0);
            }
        });
        edge("39: plus: of the greatest, of the least", () -> {
            TwoAsks x = with("list a 99 99 99 99 99 99;list b -99 -99 -99 -99 -99 -99;");
            for (int place = 0; place <= 5; place++) {
                due("plus(0, 0)", x.plus(0, 0, place), 198);
                due("plus(1, 1)", x.plus(1, 1, place), -198);
                due("plus(0, 1)", x.plus(0, 1, place), 0);
            }
        });
        edge("39: plus: -100000: no such PLACE", () -> {
            TwoAsks x = with("list a 1;list b 1;");
            for (int place : new int[] {-1, 11, LEAST, GREATEST}) {
                due("plus(0, 1, " + place + ")", x.plus(0, 1, place), -100000);
            }
            due("plus(0, 1, 10)", x.plus(0, 1, 10), 0);
        });
        edge("39: plus: -100000: no such ROW", () -> {
            TwoAsks x = with("list a 1;list b 1;");
            for (int row : new int[] {-1, 2, LEAST, GREATEST}) {
                due("plus(0, " + row + ", 0)", x.plus(0, row, 0), -100000);
                due("plus(" + row + ", 0, 0)", x.plus(row, 0, 0), -100000);
            }
        });
    }

    private static void times() {
        edge("40: times: PLACES 0 .. 10", () -> {
            TwoAsks x = with("list a 99 99 99 99 99 99;list b -99 -99 -99 -99 -99 -99;list c 2;list d;");
            for (int place = 0; place <= 10; place++) {
                int pairs = Math.min(place, 10 - place) + 1;
                due("times(0, 0)", x.times(0, 0, place), 9801 * pairs);
                due("times(0, 1)", x.times(0, 1, place), -9801 * pairs);
                due("times(1, 1)", x.times(1, 1, place), 9801 * pairs);
                due("times(0, 2)", x.times(0, 2, place), place < 6 ? 198 : 0);
                due("times(2, 0)", x.times(2, 0, place), place < 6 ? 198 : 0);
                due("times(0, 3)", x.times(0, 3, place), 0);
                due("times(3, 3)", x.times(3, 3, place), 0);
            }
        });
        edge("40: times: -100000: no such PLACE", () -> {
            TwoAsks x = with("list a 1;list b 1;");
            for (int place : new int[] {-1, 11, LEAST, GREATEST}) {
                due("times(0, 1, " + place + ")", x.times(0, 1, place), -100000);
            }
        });
        edge("40: times: -100000: no such ROW", () -> {
            TwoAsks x = with("list a 1;list b 1;");
            for (int row : new int[] {-1, 2, LEAST, GREATEST}) {
                due("times(0, " + row + ", 0)", x.times(0, row, 0), -100000);
                due("times(" + row + ", 0, 0)", x.times(row, 0, 0), -100000);
            }
        });
    }

    private static void pair() {
        TwoAsks x = new TwoAsks();
        edge("42: pair: of 0 and 0, the least ones", () -> {
            due("pair(0, 0)", x.pair(0, 0), 0);
            due("pair(1, 0)", x.pair(1, 0), 1);
            due("pair(0, 1)", x.pair(0, 1), 2);
        });
        edge("42: pair: of 999999999, the greatest ones", () -> {
            due("both", x.pair(999999999, 999999999), 1999999998000000000L);
            due("x", x.pair(999999999, 0), 499999999500000000L);
            due("y", x.pair(0, 999999999), 500000000499999999L);
        });
        edge("42: pair: -1: no such x", () -> {
            for (int none : new int[] {-1, 1000000000, LEAST, GREATEST}) {
                due("pair(" + none + ", 0)", x.pair(none, 0), -1);
                due("pair(" + none + ", 7)", x.pair(none, 7), -1);
            }
        });
        edge("42: pair: -1: no such y", () -> {
            for (int none : new int[] {-1, 1000000000, LEAST, GREATEST}) {
                due("pair(0, " + none + ")", x.pair(0, none), -1);
                due("pair(7, " + none + ")", x.pair(7, none), -1);
            }
        });
    }

    private static void back(TwoAsks x, long v, long first, long second) {
        due("x of " + v, x.unpair(v, false), first);
        due("y of " + v, x.unpair(v, true), second);
    }

    private static void unpair() {
        TwoAsks x = new TwoAsks();
        edge("43: unpair: of 0, the least one", () -> back(x, 0, 0, 0));
        edge("43: unpair: where x + y is one more", () -> {
            back(x, 1, 1, 0);
            back(x, 2, 0, 1);
            back(x, 3, 2, 0);
            back(x, 5, 0, 2);
            back(x, 6, 3, 0);
            back(x, 499999999499999999L, 0, 999999998);
            back(x, 499999999500000000L, 999999999, 0);
            back(x, 500000000499999999L, 0, 999999999);
            back(x, 500000000500000000L, 1000000000, 0);
        });
        edge("43: unpair: of 10 to the 18, the greatest one", () -> {
            // 1414213561 * 1414213562 / 2 is 999999998765257141
            back(x, MOST_SPLIT, 1414213561L - 1234742859L, 1234742859L);
            back(x, 999999998765257141L, 1414213561L, 0);
            back(x, 999999998765257140L, 0, 1414213560L);
        });
        edge("43: unpair: -1: no such one", () -> {
            for (long none : new long[] {-1, MOST_SPLIT + 1, Long.MIN_VALUE, Long.MAX_VALUE}) {
                back(x, none, -1, -1);
            }
        });
    }

    private static void number() {
        edge("44: number: of one PLACE it is that", () -> {
            TwoAsks x = with("list a 0;list b 99;");
            due("number(0)", x.number(0), 0);
            due("number(1)", x.number(1), 99);
        });
        edge("44: number: of 4 PLACES, from the first on", () -> {
            TwoAsks x = with("list a 1 0 0 0;list b 0 0 0 1;list c 99 99 99 99;list d 0 0 0 0;list e 3 2;");
            // 1 and 0 are 1 each time
            due("number(0)", x.number(0), 1);
            due("number(1)", x.number(1), 2);
            due("number(2)", x.number(2), 19601059214288475L);
            due("number(3)", x.number(3), 0);
            due("number(4)", x.number(4), 17);
        });
        edge("44: number: -2: more than 4 PLACES", () -> {
            TwoAsks x = with("list a 1 2 3 4 5;list b 0 0 0 0 0;list c 1 2 3 4 5 6;");
            for (int row = 0; row < 3; row++) {
                due("number(" + row + ")", x.number(row), -2);
            }
        });
        edge("44: number: -2: no PLACES", () -> due("number(0)", with("list a;list b 1;").number(0), -2));
        edge("44: number: -2: some below 0", () -> {
            TwoAsks x = with("list a -1;list b 1 2 3 -1;list c -1 2;");
            for (int row = 0; row < 3; row++) {
                due("number(" + row + ")", x.number(row), -2);
            }
        });
        edge("44: number: -1: no such ROW", () -> {
            TwoAsks x = with("list a 1;list b;");
            for (int row : new int[] {-1, 2, LEAST, GREATEST}) {
                due("number(" + row + ")", x.number(row), -1);
            }
        });
    }
}
