/**
 * Many runs of calls, the same ones each time, of TwoAsks and of Naive side by side: each answer is held against
 * the other's. A first argument says how many runs, a second one from which seed on.
 */
public final class NaiveRunsTest {
    private static final String[] NAMES = {"a", "b", "rows", "abcdefgh", "askask", "ifx", "z"};
    private long seed;
    private TwoAsks x;
    private Naive y;
    private boolean small;
    private int calls = 0;
    private String lastText;
    // nothing is promised behind the 512th call, and the last step may make some more
    private static final int LAST_CALL = 360;
    private static int passed = 0;
    private static int failed = 0;

    public static void main(String[] args) {
        int runs = args.length > 0 ? Integer.parseInt(args[0]) : 1500;
        int first = args.length > 1 ? Integer.parseInt(args[1]) : 1;
        for (int run = first; run < first + runs; run++) {
            new NaiveRunsTest().run(run);
        }
        System.out.println(passed + " passed, " + failed + " failed");
        if (failed > 0) {
            System.exit(1);
        }
    }

    /** A number of 0 .. below, by an old linear law; no random source. */
    private int any(int below) {
        seed = seed * 6364136223846793005L + 1442695040888963407L;
        return (int) ((seed >>> 33) % below);
    }

    private int from(int least, int greatest) {
        return least + any(greatest - least + 1);
    }

    private boolean once(int of) {
        return any(of) == 0;
    }

    @SafeVarargs
    private final <T> T of(T... ones) {
        return ones[any(ones.length)];
    }

    private void run(int run) {
        seed = run * 7919L + 13;
        x = new TwoAsks();
        y = new Naive();
        small = !once(12);
        for (int step = 0; calls < LAST_CALL; step++) {
            if (step % 40 == 0) {
                readText(run);
            }
            call(run);
        }
        same(run, "count(6)", x.count(6), y.count(6));
    }

    private void same(int run, String call, long got, long due) {
        calls++;
        if (got == due) {
            passed++;
        } else {
            failed++;
            if (failed < 40) {
                System.out.println("run " + run + ": " + call + " answered " + got + ", due is " + due
                        + " with " + lastText);
            }
        }
    }

    private void same(int run, String call, boolean got, boolean due) {
        same(run, call, got ? 1 : 0, due ? 1 : 0);
    }

    private void readText(int run) {
        String text = text();
        if (once(5)) {
            text = spoiled(text);
        }
        if (text.length() > 1980) {
            text = text.substring(0, 1980);
        }
        lastText = text;
        int pad = (20 - text.length() % 20) % 20;
        String padded = text + " ".repeat(pad);
        for (int at = 0; at < padded.length(); at += 20) {
            int[] w = new int[5];
            for (int i = 0; i < 20; i++) {
                w[i / 4] = w[i / 4] << 8 | padded.charAt(at + i) & 255;
            }
            same(run, "feed", x.feed(w[0], w[1], w[2], w[3], w[4]), y.feed(w));
        }
        same(run, "back", x.back(pad), y.back(pad));
        same(run, "read", x.read(), y.read());
        same(run, "place", x.place(), y.place());
        for (int what = -1; what <= 12; what++) {
            same(run, "count " + what, x.count(what), y.count(what));
        }
    }

    // ---- texts

    private String text() {
        StringBuilder all = new StringBuilder();
        if (small || once(2)) {
            all.append("bound ").append(small ? from(1, 3) : from(1, 4)).append(' ')
                    .append(small ? (int) of(1, 2, 3, 3, 9) : from(1, 9)).append(';');
        }
        boolean spare = once(10);
        int rows = once(40) ? 7 : any(7);
        for (int i = 0; i < rows; i++) {
            tellRow(all, spare ? of("a", "b", "abcdefgh") : NAMES[i]);
        }
        int prime = once(3) ? 97 : spare ? any(110) : (int) of(2, 3, 5, 7, 11, 13, 53, 89);
        if (prime != 97) {
            all.append("prime ").append(prime).append(" ;");
        }
        int shares = once(40) ? 9 : any(Math.min(9, Math.max(1, once(20) ? 9 : prime)));
        for (int i = 0; i < shares; i++) {
            int number = spare ? any(prime + 2) : i + 1 + (prime > 50 ? any(9) * 9 : 0);
            all.append("share ").append(number).append(' ').append(once(60) ? any(110) : any(97)).append("; ");
        }
        int bags = once(40) ? 10 : any(10);
        int most = once(60) ? 1100 : (int) of(3, 12, 1000, 1000);
        for (int i = 0; i < bags; i++) {
            all.append("bag ").append(any(most)).append(";\n");
        }
        if (once(2)) {
            all.append("ask").append(law()).append(';');
        }
        if (once(2)) {
            all.append("liar ").append(any(spare ? 12 : 5)).append("\t;\r");
        }
        return all.toString();
    }

    private void tellRow(StringBuilder all, String name) {
        if (once(2)) {
            all.append("row ").append(name).append(' ').append(size()).append(law()).append(';');
        } else {
            all.append("list ").append(name).append(numbers()).append(';');
        }
    }

    private String size() {
        return once(60) ? of("0", "7", "9999", "10") : "" + from(1, 6);
    }

    private String numbers() {
        StringBuilder all = new StringBuilder();
        int many = once(60) ? 7 : any(7);
        boolean below = once(3);
        for (int i = 0; i < many; i++) {
            all.append(below && once(2) ? " - " : " ").append(once(120) ? from(95, 105) : once(2) ? any(4) : any(100));
        }
        return all.toString();
    }

    private String law() {
        StringBuilder all = new StringBuilder("=");
        int ifs = once(60) ? 5 : once(2) ? 0 : any(5);
        for (int i = 0; i < ifs; i++) {
            all.append(" if ").append(sum(1)).append('<').append(sum(1)).append(" then ").append(sum(1))
                    .append(" else ");
        }
        return all.append(sum(0)).toString();
    }

    private String sum(int depth) {
        StringBuilder all = new StringBuilder();
        int parts = once(3) ? from(2, 4) : 1;
        for (int i = 0; i < parts; i++) {
            all.append(i == 0 ? "" : of("+", "-", " *", "/ ", "*")).append(unit(depth));
        }
        return all.toString();
    }

    private String unit(int depth) {
        if (depth < 8 && once(4)) {
            return "(" + sum(depth + 1) + ")";
        }
        return once(2) ? "" + (once(5) ? any(10000) : any(12))
                : of("place", "ahead", "many", "turn", "told", "said");
    }

    /** One place of a text changed: a byte gone, or another one, or a token's worth come in, or the end cut off. */
    private String spoiled(String text) {
        int at = any(text.length() + 1);
        String head = text.substring(0, at);
        String tail = text.substring(at);
        return switch (any(5)) {
            case 0 -> head;
            case 1 -> head + (tail.isEmpty() ? "" : tail.substring(1));
            case 2 -> head + (char) any(256) + (tail.isEmpty() ? "" : tail.substring(1));
            case 3 -> head + of(";", "(", ")", " if ", " row ", " 1 ", "<", "+", " a ", ".", "= ", "-", " list a 1;")
                    + tail;
            default -> text + "liar 1;".repeat(any(140)) + of("", "liar", "row", "x", "ask =", ";", "liar 1");
        };
    }

    // ---- calls

    private int row() {
        return once(8) ? from(-1, 6) : any(Math.max(1, y.count(0)));
    }

    private int known() {
        return once(20) ? from(-1, 21) : any(y.count(7) + 1);
    }

    private int off() {
        return once(30) ? of(-1, 21, 20) : once(2) ? 0 : once(2) ? any(3) : Math.max(0, y.count(7) - 1);
    }

    private int dense() {
        return once(30) ? of(-1, 5) : once(2) ? 4 : any(5);
    }

    private int said() {
        return once(30) ? of(-100, 100, -99, 99) : from(-9, 9);
    }

    /** An answer that some world or row gives, most times. */
    private long answer(int said) {
        if (once(40)) {
            return of(1000000000000000L, -1000000000000000L, 1000000000000001L, -1000000000000001L,
                    Long.MIN_VALUE, Long.MAX_VALUE, 123456789L, -1999L);
        }
        int world = any(y.world(0, -1));
        long sum = 0;
        for (int k = y.count(4) - 1; k >= 0; k--) {
            sum = sum * said + y.world(world, k);
        }
        return sum + (once(4) ? any(2) : 0);
    }

    private int set() {
        int all = 1 << y.count(1);
        return once(20) ? from(-1, 300) : any(all);
    }

    private void call(int run) {
        switch (any(12)) {
            case 0, 1 -> callRow(run);
            case 2 -> callTwoRows(run);
            case 3, 4 -> callWorld(run);
            case 5, 6, 7 -> callTold(run);
            case 8, 9 -> callFits(run);
            case 10 -> callShares(run);
            default -> callOther(run);
        }
    }

    private void callRow(int run) {
        int r = row();
        switch (any(8)) {
            case 0 -> {
                for (int place = -2; place <= 6; place++) {
                    same(run, "row(" + r + "," + place + ")", x.row(r, place), y.row(r, place));
                }
            }
            case 1 -> {
                int b = once(5) ? of(-1000, 1000, -999, 999) : from(-999, 999);
                same(run, "comes(" + r + "," + b + ")", x.comes(r, b), y.comes(r, b));
            }
            case 2 -> {
                int what = from(-1, 4);
                same(run, "two(" + r + "," + what + ")", x.two(r, what), y.two(r, what));
            }
            case 3 -> same(run, "degree(" + r + ")", x.degree(r), y.degree(r));
            case 4 -> {
                int b = from(-1, 97);
                same(run, "rest(" + r + "," + b + ")", x.rest(r, b), y.rest(r, b));
            }
            case 5 -> same(run, "number(" + r + ")", x.number(r), y.number(r));
            case 6 -> same(run, "hide(" + r + ")", x.hide(r), y.hide(r));
            default -> {
                long v = once(9) ? of(-1L, 1000000000000000000L, 1000000000000000001L, 0L)
                        : Math.abs((long) any(1 << 30) * any(1 << 30)) % of(10L, 1000L, 1000000000000000001L);
                int b = once(9) ? of(1, 0, -1, 2, 9999, 10000) : once(2) ? from(2, 12) : from(2, 9999);
                int what = from(-1, 7);
                same(run, "figure(" + v + "," + b + "," + what + ")", x.figure(v, b, what), y.figure(v, b, what));
            }
        }
    }

    private void callTwoRows(int run) {
        int r = row();
        int o = row();
        int place = from(-1, 11);
        same(run, "meets(" + r + "," + o + ")", x.meets(r, o), y.meets(r, o));
        same(run, "alike(" + r + "," + o + ")", x.alike(r, o), y.alike(r, o));
        same(run, "plus(" + r + "," + o + "," + place + ")", x.plus(r, o, place), y.plus(r, o, place));
        same(run, "times(" + r + "," + o + "," + place + ")", x.times(r, o, place), y.times(r, o, place));
    }

    private void callWorld(int run) {
        int many = y.world(0, -1);
        int i = once(10) ? of(-1, many, many - 1) : any(many);
        switch (any(6)) {
            case 0 -> {
                int place = from(-2, 4);
                same(run, "world(" + i + "," + place + ")", x.world(i, place), y.world(i, place));
            }
            case 1 -> {
                int b = once(10) ? of(-1, 1000, 999) : any(12);
                boolean later = once(2);
                same(run, "clash(" + b + "," + later + ")", x.clash(b, later), y.clash(b, later));
            }
            case 2 -> same(run, "once()", x.once(), y.once());
            case 3 -> {
                int s = from(-1, 5);
                same(run, "few(" + s + ")", x.few(s), y.few(s));
            }
            case 4 -> {
                int b = once(10) ? of(-100, 100, -99, 99) : from(-9, 9);
                long v = answer(b);
                same(run, "worldsAt(" + b + "," + v + ")", x.worldsAt(b, v), y.worldsAt(b, v));
            }
            default -> {
                int what = once(10) ? of(-1, 2) : any(2);
                same(run, "game(" + i + "," + what + ")", x.game(i, what), y.game(i, what));
            }
        }
    }

    private void callTold(int run) {
        switch (any(9)) {
            case 0, 1, 2 -> {
                // by 99 each world comes to a number of its own
                int said = once(3) ? 99 : said();
                long answer = answer(said);
                same(run, "tell(" + said + "," + answer + ")", x.tell(said, answer), y.tell(said, answer));
            }
            case 3, 4 -> {
                int b = said();
                same(run, "ask(" + b + ")", x.ask(b), y.ask(b));
            }
            case 5 -> same(run, "asks()", x.asks(), y.asks());
            case 6 -> {
                int slot = from(-1, 3);
                same(run, "hold(" + slot + ")", x.hold(slot), y.hold(slot));
            }
            case 7 -> {
                int slot = from(-1, 3);
                same(run, "restore(" + slot + ")", x.restore(slot), y.restore(slot));
            }
            default -> {
                if (once(4)) {
                    same(run, "forget()", x.forget(), y.forget());
                }
                int k = known();
                same(run, "cost(" + k + ")", x.cost(k), y.cost(k));
            }
        }
        for (int what = 6; what <= 11; what++) {
            same(run, "count " + what, x.count(what), y.count(what));
        }
    }

    private void callFits(int run) {
        int k = known();
        int w = off();
        int s = dense();
        String of = "(" + k + "," + w + "," + s;
        switch (any(6)) {
            case 0 -> {
                for (int i = -2; i <= 3; i++) {
                    same(run, "fits" + of + "," + i + ")", x.fits(k, w, s, i), y.fits(k, w, s, i));
                }
            }
            case 1 -> same(run, "sure" + of + ")", x.sure(k, w, s), y.sure(k, w, s));
            case 2 -> {
                int place = from(-1, 4);
                same(run, "span" + of + "," + place + ")", x.span(k, w, s, place), y.span(k, w, s, place));
            }
            case 3 -> same(run, "liars" + of + ")", x.liars(k, w, s), y.liars(k, w, s));
            case 4 -> {
                int what = once(10) ? of(-1, 2) : any(2);
                same(run, "next" + of + "," + what + ")", x.next(k, w, s, what), y.next(k, w, s, what));
            }
            default -> same(run, "enough" + of + ")", x.enough(k, w, s), y.enough(k, w, s));
        }
    }

    private void callShares(int run) {
        int set = set();
        int at = once(10) ? of(-1, 97, 96) : any(97);
        int place = from(-1, 6);
        int n = from(0, 7);
        same(run, "secret(" + set + ")", x.secret(set), y.secret(set));
        set = set();
        same(run, "shared(" + set + "," + at + ")", x.shared(set, at), y.shared(set, at));
        set = set();
        same(run, "shareRow(" + set + "," + place + ")", x.shareRow(set, place), y.shareRow(set, place));
        same(run, "wrong(" + n + ")", x.wrong(n), y.wrong(n));
    }

    private void callOther(int run) {
        int a = once(5) ? of(-1, 999999999, 1000000000, 0) : any(once(2) ? 50 : 1000000000);
        int b = once(5) ? of(-1, 999999999, 1000000000, 0) : any(once(2) ? 50 : 1000000000);
        same(run, "pair(" + a + "," + b + ")", x.pair(a, b), y.pair(a, b));
        long v = once(3) ? y.pair(a, b) + from(-1, 1) : Math.abs((long) any(1 << 30) * any(1 << 30));
        same(run, "unpair(" + v + ")", x.unpair(v, false), y.unpair(v, false));
        same(run, "unpair(" + v + ")", x.unpair(v, true), y.unpair(v, true));
        int d = once(10) ? of(0, 100, 99) : from(1, 3);
        int off = once(10) ? of(-1, 1000000, 999999) : once(2) ? any(20) : any(4000);
        same(run, "bad(" + off + "," + d + ")", x.bad(off, d), y.bad(off, d));
        same(run, "badSet(" + off + "," + d + ")", x.badSet(off, d), y.badSet(off, d));
        same(run, "allTold()", x.allTold(), y.allTold());
        same(run, "margin()", x.margin(), y.margin());
    }
}
