/** The edges of WORLDS, of what is TOLD and FITS, of games, HIDDEN ROWS and SLOTS: 10 to 20, 22, 29 to 36, 45 to 47. */
public final class EdgesOfWorldsTest extends Edges {
    private static final long MOST_ANSWER = 1000000000000000L;

    public static void main(String[] args) {
        clash();
        world();
        tell();
        forget();
        fits();
        fitsBounds();
        sure();
        span();
        liars();
        next();
        once();
        few();
        game();
        gameLaws();
        hide();
        ask();
        askLiar();
        asks();
        enough();
        cost();
        worldsAt();
        hold();
        restore();
        count();
        close();
    }

    private interface Known {
        long answer(TwoAsks x, int k, int w, int s);
    }

    /** Two answers are told: a call that is bound by k, w, s answers so wherever there are no such ones. */
    private static void noSuch(String call, int none, Known known) {
        edge(call + ": no such k", () -> {
            TwoAsks x = twoTold();
            for (int k : new int[] {-1, 3, 20, LEAST, GREATEST}) {
                due(call + " by k " + k, known.answer(x, k, 0, 4), none);
            }
            due(call + " by k 1 of a new object", known.answer(new TwoAsks(), 1, 0, 4), none);
        });
        edge(call + ": no such w", () -> {
            TwoAsks x = twoTold();
            for (int w : new int[] {-1, 21, LEAST, GREATEST}) {
                due(call + " by w " + w, known.answer(x, 2, w, 4), none);
            }
        });
        edge(call + ": no such s", () -> {
            TwoAsks x = twoTold();
            for (int s : new int[] {-1, 5, LEAST, GREATEST}) {
                due(call + " by s " + s, known.answer(x, 2, 0, s), none);
            }
        });
    }

    /** Of 16 worlds (2,1) alone fits both. */
    private static TwoAsks twoTold() {
        TwoAsks x = with("bound 2 3;");
        x.tell(1, 3);
        x.tell(0, 2);
        return x;
    }

    /** By 99 each world comes to a number of its own: one of these answers each is so for those that FIT. */
    private static TwoAsks someOf(String bound, int... answers) {
        TwoAsks x = with(bound);
        for (int answer : answers) {
            x.tell(99, answer);
        }
        return x;
    }

    private static void clash() {
        edge("10: clash: b 0: by PLACE 0 alone", () -> {
            TwoAsks x = with("bound 2 9;");
            due("later", x.clash(0, true), 10);
            due("first", x.clash(0, false), 0);
        });
        edge("10: clash: the last b by which two come to the same", () -> {
            TwoAsks x = with("bound 2 9;");
            due("later", x.clash(9, true), 10);
            due("first", x.clash(9, false), 9);
            TwoAsks y = with("bound 4 1;");
            due("later", y.clash(1, true), 2);
            due("first", y.clash(1, false), 1);
        });
        edge("10: clash: -2: no two come to the same", () -> {
            TwoAsks x = with("bound 2 9;");
            for (int b : new int[] {10, 11, 999}) {
                due("later by " + b, x.clash(b, true), -2);
                due("first by " + b, x.clash(b, false), -2);
            }
            due("of 10,000", with("bound 4 9;").clash(999, true), -2);
        });
        edge("10: clash: -2: of one PLACE, by 0 too", () -> {
            TwoAsks x = with("bound 1 9;");
            for (int b : new int[] {0, 1, 999}) {
                due("later by " + b, x.clash(b, true), -2);
                due("first by " + b, x.clash(b, false), -2);
            }
        });
        edge("10: clash: NONE: no such b", () -> {
            TwoAsks x = with("bound 2 9;");
            for (int b : new int[] {-1, 1000, LEAST, GREATEST}) {
                due("later by " + b, x.clash(b, true), -1);
                due("first by " + b, x.clash(b, false), -1);
            }
        });
    }

    private static void world() {
        edge("11: world: place NONE: how many WORLDS, i is not looked at", () -> {
            TwoAsks x = with("bound 2 3;");
            for (int i : new int[] {0, 15, 16, -1, LEAST, GREATEST}) {
                due("world(" + i + ", -1)", x.world(i, -1), 16);
            }
            due("the fewest", with("bound 1 1;").world(0, -1), 2);
            due("the most", with("bound 4 9;").world(0, -1), 10000);
        });
        edge("11: world: the first one, the last one", () -> {
            TwoAsks x = with("bound 4 9;");
            for (int place = 0; place < 4; place++) {
                due("world(0, " + place + ")", x.world(0, place), 0);
                due("world(9999, " + place + ")", x.world(9999, place), 9);
            }
        });
        edge("11: world: PLACE 0 counts least, the last PLACE most", () -> {
            TwoAsks x = with("bound 3 2;");
            int[] due = {1, 2, 0};
            for (int place = 0; place < 3; place++) {
                due("world(7, " + place + ")", x.world(7, place), due[place]);
                due("world(9, " + place + ")", x.world(9, place), place == 2 ? 1 : 0);
                due("world(8, " + place + ")", x.world(8, place), place == 2 ? 0 : 2);
            }
        });
        edge("11: world: NONE: no such i", () -> {
            TwoAsks x = with("bound 2 3;");
            for (int i : new int[] {-1, 16, LEAST, GREATEST}) {
                due("world(" + i + ", 0)", x.world(i, 0), -1);
            }
            due("world(10000, 0)", with("bound 4 9;").world(10000, 0), -1);
        });
        edge("11: world: NONE: no such PLACE", () -> {
            for (int places = 1; places <= 4; places++) {
                TwoAsks x = with("bound " + places + " 3;");
                for (int place : new int[] {-2, places, LEAST, GREATEST}) {
                    due("world(0, " + place + ") of " + places, x.world(0, place), -1);
                }
                due("the last PLACE of " + places, x.world(0, places - 1), 0);
            }
        });
    }

    private static void tell() {
        edge("12: tell: said -99, 99", () -> {
            TwoAsks x = new TwoAsks();
            due("tell(-99)", x.tell(-99, 0), 0);
            due("tell(99)", x.tell(99, 0), 1);
        });
        edge("12: tell: NONE, and nothing happens: no such number said", () -> {
            TwoAsks x = twoTold();
            String ahead = picture(x);
            for (int said : new int[] {-100, 100, LEAST, GREATEST}) {
                due("tell(" + said + ", 0)", x.tell(said, 0), -1);
            }
            same("all", picture(x), ahead);
        });
        edge("12: tell: an answer of -10 to the 15, 10 to the 15", () -> {
            TwoAsks x = with("ask=told;");
            due("tell", x.tell(0, -MOST_ANSWER), 0);
            due("tell", x.tell(0, MOST_ANSWER), 1);
        });
        edge("12: tell: NONE, and nothing happens: no such answer", () -> {
            TwoAsks x = twoTold();
            String ahead = picture(x);
            for (long answer : new long[] {-MOST_ANSWER - 1, MOST_ANSWER + 1, Long.MIN_VALUE, Long.MAX_VALUE}) {
                due("tell(0, " + answer + ")", x.tell(0, answer), -1);
            }
            same("all", picture(x), ahead);
        });
        edge("12: tell: its number: from 0 on, 20 at most", () -> {
            TwoAsks x = new TwoAsks();
            for (int i = 0; i < 20; i++) {
                due("tell", x.tell(i, i), i);
            }
            due("count(7)", x.count(7), 20);
        });
        edge("12: tell: NONE, and nothing happens: 20 are there", () -> {
            TwoAsks x = with("ask=said;");
            for (int i = 1; i <= 20; i++) {
                x.tell(i, 0);
            }
            due("tell", x.tell(50, 0), -1);
            due("tell", x.tell(50, 0), -1);
            due("count(7)", x.count(7), 20);
            due("asks", x.asks(), 20);
            due("cost(20)", x.cost(20), 31);
        });
    }

    private static void forget() {
        edge("13: forget: nothing TOLD: 0", () -> {
            TwoAsks x = new TwoAsks();
            due("forget", x.forget(), 0);
            due("forget", x.forget(), 0);
        });
        edge("13: forget: how many there were, of 20 too", () -> {
            TwoAsks x = new TwoAsks();
            for (int i = 0; i < 20; i++) {
                x.tell(1, 1);
            }
            due("forget", x.forget(), 20);
            due("count(7)", x.count(7), 0);
            due("tell", x.tell(1, 1), 0);
            due("forget", x.forget(), 1);
        });
    }

    private static void fits() {
        edge("14: fits: by none KNOWN all WORLDS fit", () -> {
            TwoAsks x = twoTold();
            due("how many", x.fits(0, 0, 4, -1), 16);
            due("how many", x.fits(0, 20, 4, -1), 16);
            due("the last one", x.fits(0, 0, 4, 15), 15);
        });
        edge("14: fits: KNOWN by k: the first k, not one more", () -> {
            TwoAsks x = twoTold();
            due("k 1", x.fits(1, 0, 4, -1), 4);
            due("k 2", x.fits(2, 0, 4, -1), 1);
        });
        edge("14: fits: no more than w are not so: w of them are", () -> {
            TwoAsks x = twoTold();
            due("w 0", x.fits(2, 0, 4, -1), 1);
            // 3 more come to 3, 3 more have 2 at PLACE 0
            due("w 1", x.fits(2, 1, 4, -1), 7);
            due("w 2", x.fits(2, 2, 4, -1), 16);
        });
        edge("14: fits: no more than s PLACES are not 0: s of them are", () -> {
            TwoAsks x = with("bound 4 2;");
            int[] due = {1, 9, 33, 65, 81};
            for (int s = 0; s <= 4; s++) {
                due("s " + s, x.fits(0, 0, s, -1), due[s]);
            }
        });
        edge("14: fits: s 4 of fewer PLACES", () -> {
            due("one PLACE", with("bound 1 9;").fits(0, 0, 4, -1), 10);
            due("one PLACE, s 0", with("bound 1 9;").fits(0, 0, 0, -1), 1);
            due("two PLACES, s 2", with("bound 2 9;").fits(0, 0, 2, -1), 100);
        });
        edge("14: fits: none do", () -> {
            TwoAsks x = with("bound 2 3;");
            x.tell(0, 4);
            due("how many", x.fits(1, 0, 4, -1), 0);
            due("the first", x.fits(1, 0, 4, 0), -1);
        });
        edge("14: fits: which, by order", () -> {
            TwoAsks x = with("bound 2 3;");
            x.tell(1, 3);
            int[] due = {3, 6, 9, 12};
            for (int i = 0; i < 4; i++) {
                due("the " + i + "-th", x.fits(1, 0, 4, i), due[i]);
            }
        });
    }

    private static void fitsBounds() {
        edge("14: fits: NONE: not so many", () -> {
            TwoAsks x = with("bound 2 3;");
            x.tell(1, 3);
            for (int i : new int[] {4, 5, 16, 10000, GREATEST}) {
                due("i " + i, x.fits(1, 0, 4, i), -1);
            }
            due("the last of all", with("bound 4 9;").fits(0, 0, 4, 9999), 9999);
            due("beyond", with("bound 4 9;").fits(0, 0, 4, 10000), -1);
        });
        edge("14: fits: NONE: no such i", () -> {
            TwoAsks x = with("bound 2 3;");
            due("i -2", x.fits(0, 0, 4, -2), -1);
            due("i least", x.fits(0, 0, 4, LEAST), -1);
        });
        noSuch("14: fits", -1, (x, k, w, s) -> x.fits(k, w, s, -1));
        edge("14: fits: w 20, of 20 KNOWN", () -> {
            TwoAsks x = with("bound 2 3;");
            for (int i = 0; i < 20; i++) {
                x.tell(0, 50);
            }
            due("w 20", x.fits(20, 20, 4, -1), 16);
            due("w 19", x.fits(20, 19, 4, -1), 0);
            due("w 19 of 19", x.fits(19, 19, 4, -1), 16);
            due("w 0 of none", x.fits(0, 0, 4, -1), 16);
        });
        edge("14: fits: answers that no WORLD gives", () -> {
            TwoAsks x = with("bound 4 9;");
            x.tell(99, MOST_ANSWER);
            x.tell(-99, -MOST_ANSWER);
            due("w 1", x.fits(2, 1, 4, -1), 0);
            due("w 2", x.fits(2, 2, 4, -1), 10000);
        });
    }

    private static void sure() {
        edge("15: sure: all PLACES if one FITS", () -> {
            due("of 2", twoTold().sure(2, 0, 4), 3);
            due("of 4, all 0", with("bound 4 9;").sure(0, 0, 0), 15);
            due("of 1", with("bound 1 1;").sure(0, 0, 0), 1);
        });
        edge("15: sure: no PLACE if all FIT", () -> due("sure", with("bound 4 1;").sure(0, 0, 4), 0));
        edge("15: sure: some", () -> {
            TwoAsks x = with("bound 3 3;");
            x.tell(0, 2);
            due("the first", x.sure(1, 0, 4), 1);
            // (0,3) and (2,3)
            TwoAsks y = with("bound 2 3;");
            y.tell(99, 297);
            y.tell(99, 299);
            due("the last", y.sure(2, 1, 4), 2);
        });
        edge("15: sure: 0 if none FIT", () -> {
            TwoAsks x = with("bound 2 3;");
            x.tell(0, 4);
            due("sure", x.sure(1, 0, 4), 0);
        });
        noSuch("15: sure", -1, (x, k, w, s) -> x.sure(k, w, s));
    }

    private static void span() {
        edge("16: span: the least, the greatest number there can be", () -> {
            TwoAsks x = with("bound 4 9;");
            for (int place = 0; place < 4; place++) {
                due("0 .. 9", x.span(0, 0, 4, place), 9);
                due("0 alone", x.span(0, 0, 0, place), 0);
            }
            x.tell(1, 36);
            due("9 alone", x.span(1, 0, 4, 3), 99);
            x.forget();
            x.tell(1, 35);
            due("8 .. 9", x.span(1, 0, 4, 0), 89);
        });
        edge("16: span: -2: none FIT", () -> {
            TwoAsks x = with("bound 2 3;");
            x.tell(0, 4);
            due("span", x.span(1, 0, 4, 0), -2);
            due("span", x.span(1, 0, 4, 1), -2);
        });
        edge("16: span: NONE: no such PLACE", () -> {
            for (int places = 1; places <= 4; places++) {
                TwoAsks x = with("bound " + places + " 2;");
                for (int place : new int[] {-1, places, LEAST, GREATEST}) {
                    due("span at " + place + " of " + places, x.span(0, 0, 4, place), -1);
                }
                due("the last of " + places, x.span(0, 0, 4, places - 1), 2);
            }
        });
        edge("16: span: where NONE and -2 could both be told, it is NONE", () -> {
            TwoAsks x = with("bound 2 3;");
            x.tell(0, 4);
            due("place 2", x.span(1, 0, 4, 2), -1);
            due("place -1", x.span(1, 0, 4, -1), -1);
        });
        noSuch("16: span", -1, (x, k, w, s) -> x.span(k, w, s, 0));
    }

    private static void liars() {
        edge("17: liars: none if none is KNOWN", () -> due("liars", twoTold().liars(0, 20, 4), 0));
        edge("17: liars: not so for all of them, not for some alone", () -> {
            TwoAsks x = with("bound 2 3;");
            x.tell(0, 2);
            x.tell(0, 1);
            due("each is so for some", x.liars(2, 1, 4), 0);
            x.tell(0, 1);
            due("2 is so for none", x.liars(3, 1, 4), 1);
            due("of 2 KNOWN", x.liars(2, 1, 4), 0);
        });
        edge("17: liars: if one FITS, all that are not so for it", () -> {
            TwoAsks x = twoTold();
            x.tell(1, 4);
            x.tell(2, 4);
            x.tell(-1, 1);
            x.tell(0, 3);
            due("one FITS", x.fits(6, 2, 4, -1), 1);
            due("of 6", x.liars(6, 2, 4), 1 << 2 | 1 << 5);
        });
        edge("17: liars: not one that is so for the first, for the last alone", () -> {
            // (3,0) (2,1) (1,2) (0,3) come to 3
            for (int first = 0; first <= 3; first++) {
                TwoAsks x = with("bound 2 3;");
                x.tell(1, 3);
                x.tell(1, 3);
                x.tell(0, first);
                due("4 FIT", x.fits(3, 1, 4, -1), 4);
                due("PLACE 0 is " + first, x.liars(3, 1, 4), 0);
                x.tell(0, 4);
                due("PLACE 0 is 4", x.liars(4, 2, 4), 8);
            }
        });
        edge("17: liars: bits of KNOWN answers, the 20th too", () -> {
            TwoAsks x = with("bound 2 3;");
            for (int i = 0; i < 20; i++) {
                x.tell(0, i == 0 || i == 19 ? 50 : 1);
            }
            due("of 20", x.liars(20, 2, 4), 1 << 19 | 1);
            due("of 19", x.liars(19, 2, 4), 1);
        });
        edge("17: liars: all, if all are not so", () -> {
            TwoAsks x = with("bound 2 3;");
            for (int i = 0; i < 20; i++) {
                x.tell(0, 50);
            }
            due("of 20", x.liars(20, 20, 4), (1 << 20) - 1);
        });
        edge("17: liars: 0 if none FIT", () -> {
            TwoAsks x = with("bound 2 3;");
            x.tell(0, 4);
            due("liars", x.liars(1, 0, 4), 0);
        });
        noSuch("17: liars", -1, (x, k, w, s) -> x.liars(k, w, s));
    }

    private static final int[] UP_TO_8 = {0, 1, 2, 3, 4, 5, 6, 7, 8, 99, 100, 101, 102, 103, 104, 105, 106, 107, 108};
    private static final int[] UP_TO_9 = {0, 1, 2, 3, 4, 5, 6, 7, 8, 9, 99, 100, 101, 102, 103, 104, 105, 106, 107};

    private static void next() {
        edge("18: next: one FITS: the least number, 1", () -> {
            TwoAsks x = twoTold();
            due("said", x.next(2, 0, 4, 0), -9);
            due("most", x.next(2, 0, 4, 1), 1);
        });
        edge("18: next: -9, if it alone is best", () -> {
            // (0 .. 9, 0) and (0 .. 8, 1): by 9 (9,0) and (0,1) come to the same
            TwoAsks x = someOf("bound 2 9;", UP_TO_9);
            due("how many", x.fits(19, 18, 4, -1), 19);
            due("said", x.next(19, 18, 4, 0), -9);
            due("most", x.next(19, 18, 4, 1), 1);
        });
        edge("18: next: 9, if it alone is best", () -> {
            // (0 .. 8, 0) and (0 .. 9, 1): by -9 (0,0) and (9,1) come to the same
            TwoAsks x = someOf("bound 2 9;", UP_TO_8);
            due("how many", x.fits(19, 18, 4, -1), 19);
            due("said", x.next(19, 18, 4, 0), 9);
            due("most", x.next(19, 18, 4, 1), 1);
        });
        edge("18: next: of alike ones the least", () -> {
            TwoAsks x = someOf("bound 2 9;", 0, 108);
            // (0,0) and (9,1) come to the same by -9 alone
            due("said", x.next(2, 1, 4, 0), -8);
            due("most", x.next(2, 1, 4, 1), 1);
            TwoAsks y = with("bound 2 9;");
            due("two at the most by -9 and 9", y.next(0, 0, 4, 0), -9);
            due("most", y.next(0, 0, 4, 1), 2);
        });
        edge("18: next: the same, whatever was asked ahead", () -> {
            TwoAsks x = with("bound 2 9;");
            due("of all", x.next(0, 0, 4, 0), -9);
            due("clash", x.clash(3, true), 10);
            x.tell(0, 9);
            due("of ten", x.next(1, 0, 4, 0), -9);
            due("most of ten", x.next(1, 0, 4, 1), 1);
        });
        edge("18: next: -2000: none FIT", () -> {
            TwoAsks x = with("bound 2 3;");
            x.tell(0, 4);
            due("said", x.next(1, 0, 4, 0), -2000);
            due("most", x.next(1, 0, 4, 1), -2000);
        });
        edge("18: next: -1000: no such what", () -> {
            TwoAsks x = twoTold();
            for (int what : new int[] {-1, 2, LEAST, GREATEST}) {
                due("what " + what, x.next(2, 0, 4, what), -1000);
            }
        });
        edge("18: next: -1000 where none FIT", () -> {
            TwoAsks x = with("bound 2 3;");
            x.tell(0, 4);
            due("what 2", x.next(1, 0, 4, 2), -1000);
            due("what -1", x.next(1, 0, 4, -1), -1000);
        });
        noSuch("18: next", -1000, (x, k, w, s) -> x.next(k, w, s, 0));
    }

    private static void once() {
        edge("19: once: 0 of one PLACE", () -> {
            due("0 .. 9", with("bound 1 9;").once(), 0);
            due("0 .. 1", with("bound 1 1;").once(), 0);
        });
        edge("19: once: of more the least b above the greatest number", () -> {
            due("4 and 9", with("bound 4 9;").once(), 10);
            due("2 and 1", with("bound 2 1;").once(), 2);
            due("3 and 3", new TwoAsks().once(), 4);
        });
    }

    private static void few() {
        edge("20: few: s 0: one WORLD, 1", () -> {
            due("few(0)", with("bound 4 9;").few(0), 1);
            due("few(0)", with("bound 1 1;").few(0), 1);
        });
        edge("20: few: s 4, of fewer PLACES too", () -> {
            due("4 PLACES", with("bound 4 9;").few(4), 3);
            due("2 PLACES", with("bound 2 1;").few(4), 2);
            due("1 PLACE", with("bound 1 9;").few(4), 1);
        });
        edge("20: few: no more than s PLACES that are not 0: s of them are", () -> {
            // (2,0,1) and (0,3,0) come to 3 by 1 and to 6 by 2
            TwoAsks x = with("bound 3 3;");
            due("few(1)", x.few(1), 2);
            due("few(2)", x.few(2), 3);
            due("few(3)", x.few(3), 3);
            due("up to 2", with("bound 3 2;").few(3), 2);
        });
        edge("20: few: NONE: no such s", () -> {
            TwoAsks x = with("bound 2 3;");
            for (int s : new int[] {-1, 5, LEAST, GREATEST}) {
                due("few(" + s + ")", x.few(s), -1);
            }
        });
    }

    private static void game() {
        edge("22: game: the first one of WORLDS, the last one", () -> {
            TwoAsks x = with("bound 2 9;ask=99;");
            due("game(0, 0)", x.game(0, 0), 1);
            due("game(99, 0)", x.game(99, 0), 1);
            due("game(99, 1)", x.game(99, 1), 2);
        });
        edge("22: game: till no other one of WORLDS fits all answers, and no further", () -> {
            // by 1, 2, 3: 0 is told by 1, (1,0,0) by 1 and 2, (2,0,1) comes to 3, 6, 11 as no other does
            TwoAsks x = new TwoAsks();
            due("(0,0,0)", x.game(0, 0), 1);
            due("(3,3,3)", x.game(63, 0), 1);
            due("(1,0,0)", x.game(1, 0), 2);
            due("(2,0,1)", x.game(18, 0), 3);
            due("(2,0,1)", x.game(18, 1), 3);
        });
        edge("22: game: 50 are enough", () -> {
            TwoAsks x = with("bound 2 3;ask=turn/49*99;");
            due("how many", x.game(5, 0), 50);
            due("FIGURES", x.game(5, 1), 51);
        });
        edge("22: game: -2: 50 are not enough", () -> {
            due("a 51st would be", with("bound 2 3;ask=turn/50*99;").game(5, 0), -2);
            due("none is", with("bound 2 3;ask=0;").game(5, 0), -2);
            due("one other is left", with("bound 2 1;ask=0;").game(1, 0), -2);
        });
        edge("22: game: FIGURES till 50", () -> {
            due("a 51st would be", with("bound 2 3;ask=turn/50*99;").game(5, 1), 50);
            due("-1", with("bound 2 3;ask=0-1;").game(5, 1), 100);
            due("10 and more", with("bound 2 3;ask=if turn<10 then 0 else 0-1;").game(0, 1), 12);
        });
        edge("22: game: NONE: no such one of WORLDS", () -> {
            TwoAsks x = with("bound 2 3;");
            for (int world : new int[] {-1, 16, LEAST, GREATEST}) {
                due("game(" + world + ", 0)", x.game(world, 0), -1);
                due("game(" + world + ", 1)", x.game(world, 1), -1);
            }
            due("of 10,000", with("bound 4 9;ask=10;").game(9999, 0), 1);
            due("beyond", with("bound 4 9;ask=10;").game(10000, 0), -1);
        });
        edge("22: game: NONE: no such what", () -> {
            TwoAsks x = with("bound 2 3;ask=0;");
            for (int what : new int[] {-1, 2, LEAST, GREATEST}) {
                due("game(0, " + what + ")", x.game(0, what), -1);
            }
        });
    }

    private static void gameLaws() {
        edge("22: game: turn is 0, told and said are 0 ahead of all", () -> {
            // if it were 1 it were 10, of two figures; if it were -1 it were -10, of three
            for (String var : new String[] {"turn", "told", "said"}) {
                TwoAsks x = with("bound 1 9;ask=9+" + var + ";");
                x.tell(5, 6);
                due("9", x.game(5, 1), 1);
                due("-9", with("bound 1 9;ask=0-9+" + var + ";").game(5, 1), 2);
            }
        });
        edge("22: game: told, said are of the question ahead", () -> {
            // by 0: 3; by 30 then (3,2) comes to 63
            TwoAsks x = with("bound 2 3;ask=10*told;");
            due("(3,2)", x.game(11, 0), 2);
            due("(3,2)", x.game(11, 1), 3);
            due("(0,2) is asked by 0 on", x.game(8, 0), -2);
            TwoAsks y = with("bound 2 3;ask=if turn<1 then 0 else said-7;");
            due("0 and -7", y.game(11, 1), 3);
        });
        edge("22: game: told is the rest by 1000, with its sign", () -> {
            // (0,4,3,1) and (9,3,3,1) come to 1008 by 9, and are told apart by 8
            TwoAsks x = with("bound 4 9;ask=if turn<1 then 9 else told;");
            due("how many", x.game(1340, 0), 2);
            due("9 and 8", x.game(1340, 1), 2);
            // (0,4,6,2) and (9,5,6,2) come to -1008 by -9, and are told apart by 2
            TwoAsks y = with("bound 4 9;ask=if turn<1 then 0-9 else told+10;");
            due("how many", y.game(2640, 0), 2);
            due("-9 and 2", y.game(2640, 1), 3);
        });
        edge("22: game: none wrong, and what is TOLD doesn't count", () -> {
            TwoAsks x = with("list a 1 1;liar 1;bound 2 3;ask=turn*99;");
            x.hide(0);
            x.ask(0);
            x.tell(7, 7);
            String ahead = picture(x);
            due("how many", x.game(5, 0), 2);
            due("FIGURES", x.game(5, 1), 3);
            same("all", picture(x), ahead);
        });
    }

    private static void hide() {
        edge("29: hide: the first ROW, the last one", () -> {
            TwoAsks x = with("list a 1;list b 2;list c 3;");
            due("hide(2)", x.hide(2), true);
            due("count(10)", x.count(10), 2);
            due("ask", x.ask(7), 3);
            due("hide(0)", x.hide(0), true);
            due("count(10)", x.count(10), 0);
            due("ask", x.ask(7), 1);
        });
        edge("29: hide: nothing is TOLD then", () -> {
            TwoAsks x = with("list a 1;");
            x.tell(1, 1);
            x.tell(2, 2);
            due("hide", x.hide(0), true);
            due("count(7)", x.count(7), 0);
            due("hide again", x.hide(0), true);
        });
        edge("29: hide: false, and nothing happens: no such ROW", () -> {
            TwoAsks x = with("list a 1 2;list b 5;");
            x.hide(1);
            x.ask(3);
            String ahead = picture(x);
            for (int row : new int[] {-1, 2, -2, LEAST, GREATEST}) {
                due("hide(" + row + ")", x.hide(row), false);
            }
            same("all", picture(x), ahead);
            due("of a new object", new TwoAsks().hide(0), false);
        });
    }

    private static void ask() {
        edge("30: ask: b -99, 99", () -> {
            TwoAsks x = with("list a 1 2;list b 99 99 99 99 99 99;");
            x.hide(0);
            due("ask(-99)", x.ask(-99), -197);
            due("ask(99)", x.ask(99), 199);
            x.hide(1);
            due("the greatest answer", x.ask(99), 951087089700L);
        });
        edge("30: ask: MISSING, and nothing happens: no such b", () -> {
            TwoAsks x = with("list a 1 2;liar 2;");
            x.hide(0);
            x.ask(1);
            String ahead = picture(x);
            for (int b : new int[] {-100, 100, LEAST, GREATEST}) {
                due("ask(" + b + ")", x.ask(b), MISSING);
            }
            same("all", picture(x), ahead);
            due("the second one is 1 more", x.ask(1), 4);
        });
        edge("30: ask: MISSING, and nothing happens: no ROW is HIDDEN", () -> {
            TwoAsks x = with("list a 1 2;");
            x.tell(1, 1);
            String ahead = picture(x);
            due("ask", x.ask(1), MISSING);
            due("ask", x.ask(0), MISSING);
            same("all", picture(x), ahead);
        });
        edge("30: ask: MISSING, and nothing happens: 20 answers are TOLD", () -> {
            TwoAsks x = with("list a 1 2;liar 3;");
            x.hide(0);
            for (int i = 1; i <= 20; i++) {
                due("ask", x.ask(0), i % 3 == 0 ? 2 : 1);
            }
            due("a 21st", x.ask(0), MISSING);
            due("a 22nd", x.ask(0), MISSING);
            due("count(7)", x.count(7), 20);
            due("count(11)", x.count(11), 20);
            x.forget();
            due("it is the 21st that is 1 more", x.ask(0), 2);
        });
        edge("30: ask: 20 that were TOLD by hand are 20", () -> {
            TwoAsks x = with("list a 1 2;");
            x.hide(0);
            for (int i = 0; i < 20; i++) {
                x.tell(1, 1);
            }
            due("ask", x.ask(0), MISSING);
            due("count(11)", x.count(11), 0);
        });
        edge("30: ask: the answer is TOLD at once, as it was given", () -> {
            TwoAsks x = with("list a 3 2;liar 2;bound 2 3;ask=told;");
            x.hide(0);
            due("ask(1)", x.ask(1), 5);
            due("asks", x.asks(), 5);
            due("fits", x.fits(1, 0, 4, -1), 2);
            due("ask(0)", x.ask(0), 4);
            due("asks", x.asks(), 4);
            due("fits", x.fits(2, 0, 4, -1), 0);
            due("count(7)", x.count(7), 2);
        });
        edge("30: ask: of a ROW of no PLACES", () -> {
            TwoAsks x = with("list a;");
            due("hide", x.hide(0), true);
            due("ask", x.ask(99), 0);
        });
    }

    private static void liarTells(int liar, int upTo) {
        TwoAsks x = with("list a 5;liar " + liar + ";");
        x.hide(0);
        for (int i = 1; i <= upTo; i++) {
            due("answer " + i + " by LIAR " + liar, x.ask(-i), liar > 0 && i % liar == 0 ? 6 : 5);
        }
    }

    private static void askLiar() {
        edge("each LIAR-th answer is 1 more", () -> {
            for (int liar = 2; liar <= 8; liar++) {
                liarTells(liar, 20);
            }
        });
        edge("LIAR 1: each answer is 1 more", () -> liarTells(1, 20));
        edge("LIAR 9: the 9th, the 18th", () -> liarTells(9, 20));
        edge("LIAR 0: none", () -> liarTells(0, 20));
        edge("LIAR is counted from its hiding on", () -> {
            TwoAsks x = with("list a 5;list b 7;liar 2;");
            x.hide(0);
            due("1st", x.ask(1), 5);
            x.hide(1);
            due("count(11)", x.count(11), 0);
            due("1st of the other", x.ask(1), 7);
            due("2nd of the other", x.ask(1), 8);
            due("3rd of the other", x.ask(1), 7);
            x.hide(1);
            due("1st again", x.ask(1), 7);
            x.forget();
            due("2nd, nothing is TOLD", x.ask(1), 8);
            due("count(11)", x.count(11), 2);
        });
    }

    private static void asks() {
        edge("31: asks: nothing is TOLD: by 0", () -> {
            TwoAsks x = with("list a 9 9;ask=turn+told+said+1;");
            due("asks", x.asks(), 1);
            x.hide(0);
            due("asks", x.asks(), 1);
            x.ask(1);
            due("asks", x.asks(), 21);
            x.forget();
            due("asks", x.asks(), 1);
        });
        edge("31: asks: turn: how many are TOLD, 20 too", () -> {
            TwoAsks x = with("ask=turn;");
            for (int i = 0; i < 20; i++) {
                due("asks", x.asks(), i);
                x.tell(9, 9);
            }
            due("asks", x.asks(), 20);
        });
    }

    private static void enough() {
        edge("32: enough: 0 if none FITS", () -> {
            TwoAsks x = with("bound 2 3;");
            x.tell(0, 4);
            due("enough", x.enough(1, 0, 4), 0);
        });
        edge("32: enough: 0 if one FITS", () -> {
            due("enough", twoTold().enough(2, 0, 4), 0);
            due("the first one", new TwoAsks().enough(0, 0, 0), 0);
        });
        edge("32: enough: 1, of two already", () -> {
            due("two", with("bound 1 1;").enough(0, 0, 4), 1);
            due("two that are alike by 9 and -9", someOf("bound 3 9;", 0, 108).enough(2, 1, 4), 1);
        });
        edge("32: enough: 1 by -9 alone", () -> due("enough", someOf("bound 2 9;", UP_TO_9).enough(19, 18, 4), 1));
        edge("32: enough: 1 by 9 alone", () -> due("enough", someOf("bound 2 9;", UP_TO_8).enough(19, 18, 4), 1));
        edge("32: enough: 2 if no number of -9 .. 9 alone does", () -> {
            // (0 .. 9, 0) and (0 .. 9, 1): -10 or 10 would do
            TwoAsks x = someOf("bound 2 9;", UP_TO_9);
            x.tell(99, 108);
            due("20 FIT", x.fits(20, 19, 4, -1), 20);
            due("enough", x.enough(20, 19, 4), 2);
        });
        edge("32: enough: 24 are not too many", () -> {
            TwoAsks x = with("bound 2 9;");
            x.tell(0, 1);
            x.tell(0, 2);
            x.tell(1, 5);
            // 10 with 1, 10 with 2 at PLACE 0, (5,0) (4,1) (3,2) (0,5)
            due("24 FIT", x.fits(3, 2, 4, -1), 24);
            due("enough", x.enough(3, 2, 4), 1);
        });
        edge("32: enough: -2: more than 24 FIT", () -> {
            TwoAsks x = with("bound 2 9;");
            x.tell(0, 1);
            x.tell(0, 2);
            x.tell(1, 6);
            due("25 FIT", x.fits(3, 2, 4, -1), 25);
            due("enough", x.enough(3, 2, 4), -2);
            due("all", x.enough(0, 0, 4), -2);
        });
        noSuch("32: enough", -1, (x, k, w, s) -> x.enough(k, w, s));
        edge("32: enough: where NONE and -2 could both be told, it is NONE", () -> {
            TwoAsks x = with("bound 4 9;");
            due("s 5", x.enough(0, 0, 5), -1);
            due("w 21", x.enough(0, 21, 4), -1);
            due("k 1", x.enough(1, 0, 4), -1);
        });
    }

    private static void cost() {
        edge("34: cost: 0 if none is KNOWN", () -> {
            due("cost(0)", twoTold().cost(0), 0);
            due("cost(0)", new TwoAsks().cost(0), 0);
        });
        edge("34: cost: KNOWN by k: the first k", () -> {
            TwoAsks x = new TwoAsks();
            x.tell(-99, 1);
            x.tell(5, 1);
            due("cost(1)", x.cost(1), 3);
            due("cost(2)", x.cost(2), 4);
        });
        edge("34: cost: of 20, the most", () -> {
            TwoAsks x = new TwoAsks();
            for (int i = 0; i < 20; i++) {
                x.tell(-99, 0);
            }
            due("cost(20)", x.cost(20), 60);
        });
        edge("34: cost: NONE: no such k", () -> {
            TwoAsks x = twoTold();
            for (int k : new int[] {-1, 3, 20, 21, LEAST, GREATEST}) {
                due("cost(" + k + ")", x.cost(k), -1);
            }
        });
    }

    private static void worldsAt() {
        edge("36: worldsAt: b -99, 99", () -> {
            TwoAsks x = with("bound 2 3;");
            due("by -99", x.worldsAt(-99, 3 - 3 * 99), 1);
            due("by 99", x.worldsAt(99, 3 + 3 * 99), 1);
        });
        edge("36: worldsAt: NONE: no such b", () -> {
            TwoAsks x = with("bound 2 3;");
            for (int b : new int[] {-100, 100, LEAST, GREATEST}) {
                due("by " + b, x.worldsAt(b, 0), -1);
            }
        });
        edge("36: worldsAt: by 0: PLACE 0 alone", () -> {
            TwoAsks x = with("bound 3 3;");
            due("3", x.worldsAt(0, 3), 16);
            due("4", x.worldsAt(0, 4), 0);
            due("-1", x.worldsAt(0, -1), 0);
        });
        edge("36: worldsAt: a number that none comes to", () -> {
            TwoAsks x = with("bound 4 9;");
            for (long v : new long[] {-1, 37, Long.MIN_VALUE, Long.MAX_VALUE, 1L << 32}) {
                due("worldsAt(1, " + v + ")", x.worldsAt(1, v), 0);
            }
            due("the least", x.worldsAt(1, 0), 1);
            due("the greatest", x.worldsAt(1, 36), 1);
        });
    }

    private static void hold() {
        edge("45: hold: SLOTS 0 .. 2", () -> {
            TwoAsks x = new TwoAsks();
            for (int slot = 0; slot < 3; slot++) {
                due("hold(" + slot + ")", x.hold(slot), true);
                due("count(8)", x.count(8), slot + 1);
            }
            due("hold(1) again", x.hold(1), true);
            due("count(8)", x.count(8), 3);
        });
        edge("45: hold: false: no such SLOT", () -> {
            TwoAsks x = new TwoAsks();
            x.tell(1, 1);
            for (int slot : new int[] {-1, 3, LEAST, GREATEST}) {
                due("hold(" + slot + ")", x.hold(slot), false);
            }
            due("count(8)", x.count(8), 0);
        });
        edge("45: hold: nothing TOLD is held too", () -> {
            TwoAsks x = new TwoAsks();
            due("hold(0)", x.hold(0), true);
            due("count(8)", x.count(8), 1);
            x.tell(1, 1);
            due("restore(0)", x.restore(0), true);
            due("count(7)", x.count(7), 0);
        });
        edge("45: hold: 20 are held", () -> {
            TwoAsks x = with("ask=said+turn;");
            for (int i = 1; i <= 20; i++) {
                x.tell(i, -i);
            }
            x.hold(2);
            x.forget();
            due("restore(2)", x.restore(2), true);
            due("count(7)", x.count(7), 20);
            due("cost(20)", x.cost(20), 31);
            due("asks", x.asks(), 40);
            due("tell", x.tell(1, 1), -1);
        });
        edge("45: hold: numbers said and answers are held", () -> {
            TwoAsks x = with("bound 2 3;ask=10*said+told;");
            x.tell(1, 3);
            x.tell(0, 2);
            x.hold(1);
            x.forget();
            x.tell(3, 4);
            x.tell(5, 6);
            due("asks", x.asks(), 56);
            due("restore(1)", x.restore(1), true);
            due("asks", x.asks(), 2);
            due("fits", x.fits(2, 0, 4, 0), 6);
            due("fits", x.fits(1, 0, 4, -1), 4);
        });
        edge("45: hold: in place of what the SLOT held", () -> {
            TwoAsks x = new TwoAsks();
            x.tell(1, 1);
            x.tell(2, 2);
            x.hold(0);
            x.forget();
            x.tell(33, 3);
            x.hold(0);
            x.forget();
            x.restore(0);
            due("count(7)", x.count(7), 1);
            due("cost(1)", x.cost(1), 2);
        });
    }

    private static void restore() {
        edge("46: restore: what a SLOT holds stays there", () -> {
            TwoAsks x = new TwoAsks();
            x.tell(1, 1);
            x.hold(0);
            for (int i = 0; i < 3; i++) {
                due("restore(0)", x.restore(0), true);
                due("count(7)", x.count(7), 1);
                due("tell", x.tell(55, 5), 1);
                due("cost(2)", x.cost(2), 3);
                x.forget();
                x.tell(-77, 7);
            }
            due("restore(0)", x.restore(0), true);
            due("cost(1)", x.cost(1), 1);
            due("count(8)", x.count(8), 1);
        });
        edge("46: restore: each SLOT holds its own", () -> {
            TwoAsks x = new TwoAsks();
            for (int slot = 0; slot < 3; slot++) {
                x.hold(slot);
                x.tell(1, 1);
            }
            for (int slot = 2; slot >= 0; slot--) {
                due("restore(" + slot + ")", x.restore(slot), true);
                due("count(7)", x.count(7), slot);
            }
        });
        edge("46: restore: false, and nothing happens: no such SLOT", () -> {
            TwoAsks x = twoTold();
            x.hold(0);
            x.hold(1);
            x.hold(2);
            x.tell(3, 3);
            String ahead = picture(x);
            for (int slot : new int[] {-1, 3, LEAST, GREATEST}) {
                due("restore(" + slot + ")", x.restore(slot), false);
            }
            same("all", picture(x), ahead);
        });
        edge("46: restore: false, and nothing happens: nothing is held", () -> {
            TwoAsks x = twoTold();
            x.hold(1);
            x.tell(3, 3);
            String ahead = picture(x);
            due("restore(0)", x.restore(0), false);
            due("restore(2)", x.restore(2), false);
            same("all", picture(x), ahead);
            due("of a new object", new TwoAsks().restore(0), false);
        });
        edge("46: restore: what is TOLD alone: the HIDDEN ROW, and how often it was ASKED, stay", () -> {
            TwoAsks x = with("list a 5;list b 7;liar 3;");
            x.hold(0);
            x.hide(1);
            due("hide leaves the SLOTS", x.count(8), 1);
            x.ask(1);
            x.ask(1);
            due("restore(0)", x.restore(0), true);
            due("count(7)", x.count(7), 0);
            due("count(10)", x.count(10), 1);
            due("count(11)", x.count(11), 2);
            due("the 3rd is 1 more", x.ask(1), 8);
        });
    }

    private static void count() {
        edge("47: count: each one, where all are unlike", () -> {
            TwoAsks x = with("list a;list b;list c;list d;share 1 1;share 2 2;bag 1;bag 2;bag 3;bag 4;bag 5;prime 11;"
                    + "bound 3 8;liar 7;");
            x.hide(3);
            for (int i = 0; i < 9; i++) {
                x.ask(1);
            }
            x.tell(1, 1);
            x.hold(2);
            feed(x, "0123456789012");
            int[] counts = {4, 2, 5, 11, 3, 8, 13, 10, 1, 7, 3, 9};
            for (int what = 0; what < counts.length; what++) {
                due("count(" + what + ")", x.count(what), counts[what]);
            }
        });
        edge("47: count: 10: -2: none is HIDDEN", () -> {
            due("count(10)", new TwoAsks().count(10), -2);
            due("count(10)", with("list a 1;").count(10), -2);
        });
        edge("47: count: NONE for others", () -> {
            TwoAsks x = with("list a 1;");
            for (int what : new int[] {-1, -2, 12, 13, LEAST, GREATEST}) {
                due("count(" + what + ")", x.count(what), -1);
            }
        });
    }
}
