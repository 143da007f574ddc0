import java.util.HashSet;
import java.util.Set;

/** What the tests of edges share: each edge bears the words of the document that it is about, and is told if broken. */
abstract class Edges {
    static final long MISSING = -2000000000000000000L;
    static final int LEAST = Integer.MIN_VALUE;
    static final int GREATEST = Integer.MAX_VALUE;

    private static final Set<String> SENTENCES = new HashSet<>();
    private static int broken = 0;
    private static boolean well = true;

    /** One edge: a sentence of the document, and calls that would answer otherwise if it were broken. */
    static void edge(String sentence, Runnable calls) {
        well = SENTENCES.add(sentence);
        if (!well) {
            System.out.println("    told twice");
        }
        try {
            calls.run();
        } catch (RuntimeException | StackOverflowError thrown) {
            well = false;
            System.out.println("    thrown: " + thrown);
        }
        if (!well) {
            broken++;
            System.out.println("BROKEN: " + sentence);
        }
    }

    static void close() {
        System.out.println(SENTENCES.size() - broken + " edges hold, " + broken + " are broken");
        if (broken > 0) {
            System.exit(1);
        }
    }

    static void due(String call, long got, long due) {
        if (got != due) {
            well = false;
            System.out.println("    " + call + " answered " + got + ", due is " + due);
        }
    }

    static void due(String call, boolean got, boolean due) {
        due(call, got ? 1 : 0, due ? 1 : 0);
    }

    static void same(String what, String got, String due) {
        if (!got.equals(due)) {
            well = false;
            System.out.println("    " + what + ": is " + got + ", was " + due);
        }
    }

    /** The text comes behind the tape, twenty bytes a call; bytes beyond its end go again. */
    static void feed(TwoAsks x, String text) {
        int pad = (20 - text.length() % 20) % 20;
        String padded = text + " ".repeat(pad);
        for (int at = 0; at < padded.length(); at += 20) {
            x.feed(four(padded, at), four(padded, at + 4), four(padded, at + 8), four(padded, at + 12),
                    four(padded, at + 16));
        }
        x.back(pad);
    }

    private static int four(String text, int at) {
        int word = 0;
        for (int i = 0; i < 4; i++) {
            word = word << 8 | text.charAt(at + i) & 255;
        }
        return word;
    }

    /** An object that has read a text without a fault. */
    static TwoAsks with(String text) {
        TwoAsks x = new TwoAsks();
        feed(x, text);
        due("read of " + text, x.read(), 0);
        return x;
    }

    /** A text and its fault, and where that is; number 0: none. */
    static void fault(String text, int number, int place) {
        TwoAsks x = new TwoAsks();
        feed(x, text);
        due("bytes of " + text, x.count(6), text.length());
        due("read of " + text, x.read(), number);
        due("place of " + text, x.place(), place);
    }

    static void fine(String text) {
        fault(text, 0, -1);
    }

    /** What a law tells, place by place, in a row of as many places. */
    static void law(String law, int... places) {
        TwoAsks x = with("row a " + places.length + " = " + law + ";");
        for (int k = 0; k < places.length; k++) {
            due(law + " at " + k, x.row(0, k), places[k]);
        }
    }

    /** All that can be seen of an object but what a fault and its tape change: some 200 calls at the most. */
    static String picture(TwoAsks x) {
        StringBuilder all = new StringBuilder();
        for (int what = 0; what <= 11; what++) {
            all.append(what == 6 ? 0 : x.count(what)).append(' ');
        }
        for (int row = 0; row < x.count(0); row++) {
            for (int place = -1; place < x.row(row, -1); place++) {
                all.append(x.row(row, place)).append(' ');
            }
        }
        for (int set = 0; set < x.count(1); set++) {
            all.append(x.secret(1 << set)).append(' ');
        }
        all.append(x.badSet(x.margin(), 1)).append(' ').append(x.allTold()).append(' ').append(x.asks()).append(' ');
        for (int k = 0; k <= x.count(7); k++) {
            all.append(x.cost(k)).append(' ').append(x.fits(k, 0, 4, -1)).append(' ').append(x.liars(k, 20, 0))
                    .append(' ');
        }
        return all.toString();
    }
}
