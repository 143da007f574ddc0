/** The edges of BAGS and of SECRETS by SHARES: promises 23 to 28, 33 and 41. */
public final class EdgesOfSharesTest extends Edges {
    private static final String BAGS9_OF_999 = "bag 999;".repeat(9);
    private static final String DOUBLED = "bag 1;bag 2;bag 4;bag 8;bag 16;bag 32;bag 64;bag 128;bag 256;";
    // 3 + 5 b + 2 b b by 11
    private static final String FOUR = "prime 11;share 1 10;share 2 10;share 3 3;share 4 0;";
    private static final String EIGHT = "share 1 1;share 2 2;share 3 3;share 4 4;share 5 5;share 6 6;share 7 7;"
            + "share 96 96;";

    public static void main(String[] args) {
        bad();
        badSet();
        allTold();
        margin();
        secret();
        sets();
        shared();
        shareRow();
        wrong();
        wrongOfAlike();
        close();
    }

    private static void bad() {
        edge("23: bad: of no BAGS: the empty SET by OFF 0 alone", () -> {
            TwoAsks x = new TwoAsks();
            due("bad(0, 1)", x.bad(0, 1), 1);
            due("bad(1, 1)", x.bad(1, 1), 0);
        });
        edge("23: bad: OFF 0: the empty SET, and all of BAGS that none is taken of", () -> {
            due("none", with("bag 5;").bad(0, 99), 1);
            due("one", with("bag 5;bag 0;").bad(0, 99), 2);
            due("nine", with("bag 0;".repeat(9)).bad(0, 1), 512);
        });
        edge("23: bad: OFF 999999", () -> due("bad", with(BAGS9_OF_999).bad(999999, 99), 0));
        edge("23: bad: the greatest OFF that there is", () -> {
            TwoAsks x = with(BAGS9_OF_999);
            due("all by 99", x.bad(890109, 99), 1);
            due("one more", x.bad(890110, 99), 0);
            due("all but one", x.bad(999 * 8 * 99, 99), 9);
        });
        edge("23: bad: NONE: no such OFF", () -> {
            TwoAsks x = with("bag 5;");
            for (int off : new int[] {-1, 1000000, LEAST, GREATEST}) {
                due("bad(" + off + ", 1)", x.bad(off, 1), -1);
            }
        });
        edge("23: bad: d 1, 99", () -> {
            TwoAsks x = with("bag 1;bag 2;");
            due("by 1", x.bad(3, 1), 1);
            due("by 99", x.bad(297, 99), 1);
            due("by 98", x.bad(297, 98), 0);
        });
        edge("23: bad: NONE: no such d", () -> {
            TwoAsks x = with("bag 5;");
            for (int d : new int[] {0, -1, 100, LEAST, GREATEST}) {
                due("bad(0, " + d + ")", x.bad(0, d), -1);
                due("bad(5, " + d + ")", x.bad(5, d), -1);
            }
        });
        edge("23: bad: an OFF that d doesn't divide: none", () -> {
            TwoAsks x = with("bag 1;bag 2;");
            due("bad(3, 2)", x.bad(3, 2), 0);
            due("bad(4, 2)", x.bad(4, 2), 1);
            due("bad(5, 2)", x.bad(5, 2), 0);
        });
    }

    private static void badSet() {
        edge("24: badSet: the least bits of more than one", () -> {
            TwoAsks x = with("bag 1;bag 2;bag 3;");
            due("1 and 2, or 3", x.badSet(3, 1), 3);
            due("four of nine", with(BAGS9_OF_999).badSet(4 * 999, 1), 15);
        });
        edge("24: badSet: the empty SET is 0", () -> {
            due("of no BAGS", new TwoAsks().badSet(0, 1), 0);
            due("of one", with("bag 0;").badSet(0, 1), 0);
        });
        edge("24: badSet: the SET of all nine", () -> due("badSet", with(DOUBLED).badSet(511, 1), 511));
        edge("24: badSet: -2: there is none", () -> {
            TwoAsks x = with("bag 2;bag 4;");
            due("badSet(1, 1)", x.badSet(1, 1), -2);
            due("badSet(7, 1)", x.badSet(7, 1), -2);
            due("badSet(3, 2)", x.badSet(3, 2), -2);
            due("badSet(999999, 1)", x.badSet(999999, 1), -2);
            due("of no BAGS", new TwoAsks().badSet(1, 1), -2);
            due("of nine", with(DOUBLED).badSet(512, 1), -2);
        });
        edge("24: badSet: NONE: no such OFF", () -> {
            TwoAsks x = with("bag 5;");
            for (int off : new int[] {-1, 1000000, LEAST, GREATEST}) {
                due("badSet(" + off + ", 1)", x.badSet(off, 1), -1);
            }
        });
        edge("24: badSet: NONE: no such d", () -> {
            TwoAsks x = with("bag 5;");
            for (int d : new int[] {0, -1, 100, LEAST, GREATEST}) {
                due("badSet(0, " + d + ")", x.badSet(0, d), -1);
            }
            due("badSet(5, 1)", x.badSet(5, 1), 1);
            due("badSet(495, 99)", x.badSet(495, 99), 1);
        });
    }

    private static void allTold() {
        edge("25: allTold: of no BAGS", () -> due("allTold", new TwoAsks().allTold(), true));
        edge("25: allTold: not with a BAG that none is taken of", () -> {
            due("one", with("bag 0;").allTold(), false);
            due("the last", with("bag 1;bag 2;bag 0;").allTold(), false);
        });
        edge("25: allTold: of all 512 SETS", () -> {
            due("doubled", with(DOUBLED).allTold(), true);
            due("one twice", with("bag 1;bag 2;bag 4;bag 8;bag 16;bag 32;bag 64;bag 128;bag 128;").allTold(), false);
            due("all alike to one", with("bag 1;bag 2;bag 4;bag 8;bag 16;bag 32;bag 64;bag 128;bag 255;").allTold(),
                    false);
        });
        edge("25: allTold: one SET at most by each OFF", () -> {
            due("1, 2 and 3", with("bag 1;bag 2;bag 3;").allTold(), false);
            due("1, 2 and 4", with("bag 1;bag 2;bag 4;").allTold(), true);
            due("7 and 7", with("bag 7;bag 7;").allTold(), false);
            due("999 alone", with("bag 999;").allTold(), true);
        });
    }

    private static void margin() {
        edge("41: margin: -2: no BAGS", () -> due("margin", new TwoAsks().margin(), -2));
        edge("41: margin: of one BAG", () -> {
            due("999", with("bag 999;").margin(), 999);
            due("1", with("bag 1;").margin(), 1);
            due("0", with("bag 0;").margin(), 0);
        });
        edge("41: margin: 0 where two unlike SETS come to the same", () -> {
            due("1, 2 and 3", with("bag 1;bag 2;bag 3;").margin(), 0);
            due("nine alike", with(BAGS9_OF_999).margin(), 0);
        });
        edge("41: margin: between the empty SET and the least one", () ->
                due("margin", with("bag 5;bag 11;").margin(), 5));
        edge("41: margin: between the last two SETS", () -> {
            // 0 5 7 12
            due("5 and 7", with("bag 5;bag 7;").margin(), 2);
            // 0 998 999 1997
            due("998 and 999", with("bag 998;bag 999;").margin(), 1);
            // 0 100 210 310 430 530 640 740
            due("100, 210 and 430", with("bag 430;bag 100;bag 210;").margin(), 100);
        });
        edge("41: margin: of nine BAGS", () -> {
            due("1", with(DOUBLED).margin(), 1);
            due("3", with("bag 3;bag 6;bag 12;bag 24;bag 48;bag 96;bag 192;bag 384;bag 768;").margin(), 3);
        });
    }

    private static void secret() {
        edge("26: secret: of one SHARE: itself", () -> {
            TwoAsks x = with(FOUR);
            int[] due = {10, 10, 3, 0};
            for (int i = 0; i < 4; i++) {
                due("secret(" + (1 << i) + ")", x.secret(1 << i), due[i]);
            }
        });
        edge("26: secret: of six SHARES, the last one too", () -> {
            TwoAsks x = with(EIGHT);
            due("the first six", x.secret(63), 0);
            due("the last six", x.secret(252), 0);
            due("the last one", x.secret(128), 96);
        });
        edge("26: secret: by any so many it is the same", () -> {
            TwoAsks x = with(FOUR);
            for (int set : new int[] {7, 11, 13, 14, 15}) {
                due("secret(" + set + ")", x.secret(set), 3);
            }
        });
        edge("26: secret: by one too few it is another one", () -> due("secret(3)", with(FOUR).secret(3), 10));
        edge("26: secret: by PRIME 2: the least", () -> {
            due("1", with("prime 2;share 1 1;").secret(1), 1);
            due("0", with("prime 2;share 1 0;").secret(1), 0);
        });
        edge("26: secret: rests by PRIME are taken of what is shared", () -> {
            due("96 by 2", with("prime 2;share 1 96;").secret(1), 0);
            due("7 by 7", with("prime 7;share 1 7;").secret(1), 0);
            due("6 by 7", with("prime 7;share 1 6;").secret(1), 6);
            // 4 at 1, 3 at 6
            due("95, 94 by 7", with("prime 7;share 1 95;share 6 94;").secret(3), 0);
        });
    }

    private interface BySet {
        long answer(TwoAsks x, int set);
    }

    private static void noSuchSet(String call, BySet by) {
        edge(call + ": NONE: the empty set", () -> due(call, by.answer(with(FOUR), 0), -1));
        edge(call + ": NONE: a set of SHARES that there are not", () -> {
            TwoAsks x = with(FOUR);
            for (int set : new int[] {16, 17, 31, 128, 256, 1 << 30, GREATEST}) {
                due(call + " of " + set, by.answer(x, set), -1);
            }
            TwoAsks y = with(EIGHT);
            due(call + " of the 9th", by.answer(y, 256), -1);
            due(call + " of the 1st and 9th", by.answer(y, 257), -1);
            due(call + " of none told", by.answer(new TwoAsks(), 1), -1);
        });
        edge(call + ": NONE: a set below 0", () -> {
            TwoAsks x = with(EIGHT);
            for (int set : new int[] {-1, -2, LEAST, LEAST + 1}) {
                due(call + " of " + set, by.answer(x, set), -1);
            }
        });
        edge(call + ": NONE: a set of more than 6", () -> {
            TwoAsks x = with(EIGHT);
            for (int set : new int[] {127, 254, 191, 255}) {
                due(call + " of " + set, by.answer(x, set), -1);
            }
        });
    }

    private static void sets() {
        noSuchSet("26: secret", (x, set) -> x.secret(set));
        noSuchSet("27: shared", (x, set) -> x.shared(set, 1));
        noSuchSet("33: shareRow", (x, set) -> x.shareRow(set, 0));
    }

    private static void shared() {
        edge("27: shared: at 0: the secret", () -> due("shared(7, 0)", with(FOUR).shared(7, 0), 3));
        edge("27: shared: at 96, beyond PRIME too: its rest", () -> {
            TwoAsks x = with(FOUR);
            // 96 is 8 by 11
            due("at 96", x.shared(7, 96), (3 + 40 + 128) % 11);
            due("at PRIME", x.shared(7, 11), 3);
            due("of six", with(EIGHT).shared(63, 96), 96);
        });
        edge("27: shared: at the SHARES' own numbers", () -> {
            TwoAsks x = with(FOUR);
            int[] due = {10, 10, 3, 0};
            for (int i = 0; i < 4; i++) {
                due("at " + (i + 1), x.shared(15, i + 1), due[i]);
            }
        });
        edge("27: shared: of one SHARE it is the same at all numbers", () -> {
            TwoAsks x = with(FOUR);
            due("at 0", x.shared(2, 0), 10);
            due("at 96", x.shared(2, 96), 10);
        });
        edge("27: shared: NONE: no such number", () -> {
            TwoAsks x = with(FOUR);
            for (int at : new int[] {-1, 97, LEAST, GREATEST}) {
                due("shared(7, " + at + ")", x.shared(7, at), -1);
            }
        });
    }

    private static void shareRow() {
        edge("33: shareRow: as many PLACES as SHARES, the last one too", () -> {
            TwoAsks x = with(FOUR);
            int[] due = {3, 5, 2, 0};
            for (int place = 0; place < 4; place++) {
                due("shareRow(15, " + place + ")", x.shareRow(15, place), due[place]);
            }
            due("shareRow(7, 2)", x.shareRow(7, 2), 2);
            due("shareRow(1, 0)", x.shareRow(1, 0), 10);
            // 1 at 1 .. 5, 2 at 6: 1 + (b - 1)(b - 2)(b - 3)(b - 4)(b - 5) / 120
            TwoAsks y = with("prime 7;share 1 1;share 2 1;share 3 1;share 4 1;share 5 1;share 6 2;");
            due("shareRow(63, 5)", y.shareRow(63, 5), 1);
            due("shareRow(63, 4)", y.shareRow(63, 4), 6);
            due("shareRow(63, 0)", y.shareRow(63, 0), 0);
        });
        edge("33: shareRow: NONE: a PLACE beyond", () -> {
            TwoAsks x = with(EIGHT);
            for (int many = 1; many <= 6; many++) {
                int set = (1 << many) - 1;
                due("the last of " + many, x.shareRow(set, many - 1), many == 1 || many == 2 ? 1 : 0);
                for (int place : new int[] {many, many + 1, 6, 7, GREATEST}) {
                    due("place " + place + " of " + many, x.shareRow(set, place), -1);
                }
            }
        });
        edge("33: shareRow: NONE: a PLACE below 0", () -> {
            TwoAsks x = with(FOUR);
            due("place -1", x.shareRow(7, -1), -1);
            due("place least", x.shareRow(7, LEAST), -1);
        });
    }

    private static void wrong() {
        // 4 + b by 97 but for the third one
        String five = "share 1 5;share 2 6;share 3 50;share 4 8;share 5 9;";
        edge("28: wrong: -2: fewer than n SHARES", () -> {
            TwoAsks x = with(five);
            due("wrong(6)", x.wrong(6), -2);
            for (int n = 1; n <= 6; n++) {
                due("of none", new TwoAsks().wrong(n), -2);
                due("of one", with("share 1 1;").wrong(n), n == 1 ? 0 : -2);
            }
        });
        edge("28: wrong: as many as n SHARES: all come", () -> {
            due("wrong(5)", with(five).wrong(5), 0);
            due("wrong(1)", with("share 1 5;").wrong(1), 0);
            due("wrong(6)", with("share 1 1;share 2 5;share 3 2;share 4 8;share 5 9;share 6 0;").wrong(6), 0);
        });
        edge("28: wrong: NONE: no such n", () -> {
            TwoAsks x = with(EIGHT);
            for (int n : new int[] {0, -1, 7, 8, LEAST, GREATEST}) {
                due("wrong(" + n + ")", x.wrong(n), -1);
            }
        });
        edge("28: wrong: where NONE and -2 could both be told, it is NONE", () -> {
            TwoAsks x = new TwoAsks();
            due("wrong(7)", x.wrong(7), -1);
            due("wrong(0)", x.wrong(0), -1);
        });
        edge("28: wrong: the row to which most SHARES come", () -> {
            due("wrong(2)", with(five).wrong(2), 4);
            due("wrong(3)", with(five).wrong(3), 4);
            due("of eight, the last", with("share 1 1;share 2 2;share 3 3;share 4 4;share 5 5;share 6 6;share 7 7;"
                    + "share 96 0;").wrong(2), 128);
        });
        edge("28: wrong: by 6 of 8", () -> {
            due("all come", with(EIGHT).wrong(6), 0);
            due("the first", with("share 1 2;share 2 2;share 3 3;share 4 4;share 5 5;share 6 6;share 7 7;"
                    + "share 96 96;").wrong(6), 1);
        });
        edge("28: wrong: rests by PRIME are taken of what is shared", () -> {
            // 1 all along by 7
            due("wrong(1)", with("prime 7;share 1 1;share 2 8;share 3 92;share 4 2;").wrong(1), 8);
            due("wrong(2)", with("prime 7;share 1 8;share 2 15;share 3 1;").wrong(2), 0);
        });
    }

    private static void wrongOfAlike() {
        edge("28: wrong: of alike ones the set of the least bits", () -> {
            TwoAsks x = with("prime 7;share 1 1;share 2 1;share 3 3;share 4 3;");
            due("1, 1 or 3, 3", x.wrong(1), 12);
            // by each two just these two come
            due("wrong(2)", x.wrong(2), 12);
            // by any three these alone: the first three leave the last one
            TwoAsks y = with("share 1 5;share 2 6;share 3 50;share 4 8;share 5 9;");
            due("wrong(4)", y.wrong(4), 16);
            due("wrong(1)", y.wrong(1), 30);
        });
        edge("28: wrong: a later set to which more SHARES come", () -> {
            due("3, 3 of 1, 3, 3", with("share 1 1;share 2 3;share 3 3;").wrong(1), 1);
            due("the last two", with("share 1 1;share 2 2;share 3 9;share 4 9;").wrong(1), 3);
        });
    }
}
