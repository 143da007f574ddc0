import java.util.Arrays;

/** Rows of whole numbers that are asked for by what they come to: the promises of DOC.md, one method each. */
public final class TwoAsks {
    public static final int NONE = -1;
    public static final long MISSING = -2000000000000000000L;

    private static final int NO_ANSWER = -2;
    private static final int NO_PLACE = -1000;
    private static final int NO_QUESTION = -1000;
    private static final int NONE_FIT = -2000;
    private static final int NO_SUM = -100000;
    private static final int TAPE_ROOM = 2000;
    private static final int FEED_BYTES = 20;
    private static final int SLOTS = 3;
    private static final int GREATEST_BASE = 999;
    private static final int GREATEST_SAID = 99;
    private static final int GREATEST_AT = 96;
    private static final int MOST_WRONG = 20;
    private static final int MOST_QUESTIONS = 50;
    private static final int LAST_SUM_PLACE = 10;
    private static final int MOST_PAIRED = 4;
    private static final int GREATEST_PAIRED = 999999999;
    private static final int GREATEST_OFF = 999999;
    private static final long GREATEST_ANSWER = 1000000000000000L;
    private static final long GREATEST_SPLIT = 1000000000000000000L;
    // a power of 2: this one, and all halves of it, reach the diagonal of the greatest number that is split
    private static final long FARTHEST_STEP = 1L << 30;

    private final byte[] tape = new byte[TAPE_ROOM];
    private int tapeLength = 0;
    private int faultPlace = NONE;
    private final Reader reader = new Reader();
    private Text text = new Text();
    private final Told told = new Told();
    private final Told[] slots = new Told[SLOTS];
    private int hidden = NO_ANSWER;
    private int asked = 0;
    private final Worlds worlds = new Worlds();
    private final Fitting fitting = new Fitting(worlds);

    public TwoAsks() {
        for (int slot = 0; slot < SLOTS; slot++) {
            slots[slot] = new Told();
        }
        begin();
    }

    /** What a new text leaves: nothing is TOLD, HIDDEN or held. */
    private void begin() {
        told.clear();
        for (int slot = 0; slot < SLOTS; slot++) {
            slots[slot].clear();
            slots[slot].holds = false;
        }
        hidden = NO_ANSWER;
        asked = 0;
        worlds.settle(text.worldPlaces, text.greatest);
    }

    // ---- the tape and its text

    public int feed(int a, int b, int c, int d, int e) {
        if (tapeLength > TAPE_ROOM - FEED_BYTES) {
            return NONE;
        }
        putFour(a);
        putFour(b);
        putFour(c);
        putFour(d);
        putFour(e);
        return tapeLength;
    }

    private void putFour(int word) {
        for (int shift = 24; shift >= 0 && tapeLength < TAPE_ROOM; shift -= 8) {
            tape[tapeLength] = (byte) (word >>> shift);
            tapeLength++;
        }
    }

    public int back(int n) {
        if (n < 0 || n > tapeLength) {
            return NONE;
        }
        tapeLength -= n;
        return tapeLength;
    }

    public int read() {
        int fault = reader.readDraft(tape, tapeLength);
        tapeLength = 0;
        faultPlace = fault == 0 ? NONE : reader.faultPlace;
        if (fault == 0) {
            text = reader.exchange(text);
            begin();
        }
        return fault;
    }

    public int place() {
        return faultPlace;
    }

    // ---- rows, and what they come to

    private static boolean within(long number, long least, long greatest) {
        return number >= least && number <= greatest;
    }

    private boolean isRow(int row) {
        return row >= 0 && row < text.rows;
    }

    private boolean areTwoRows(int row, int other) {
        return isRow(row) && isRow(other) && row != other;
    }

    public int row(int row, int place) {
        if (!isRow(row)) {
            return NO_PLACE;
        }
        int size = text.sizes[row];
        if (place == NONE) {
            return size;
        }
        return place >= 0 && place < size ? text.numberAt(row, place) : NO_PLACE;
    }

    public long comes(int row, int b) {
        if (!isRow(row) || !within(b, -GREATEST_BASE, GREATEST_BASE)) {
            return MISSING;
        }
        return text.comesTo(row, b);
    }

    public long two(int row, int what) {
        if (!isRow(row) || !within(what, 0, 3)) {
            return NONE;
        }
        if (text.isSomeBelowZero(row)) {
            return NO_ANSWER;
        }
        long first = text.comesTo(row, 1);
        switch (what) {
            case 0:
                return first;
            case 1:
                return first + 1;
            case 2:
                return text.comesTo(row, first + 1);
            default:
                return figuresOf(1) + figuresOf(first + 1);
        }
    }

    /** FIGURES of a number said: its digits, and one for a sign. */
    private static int figuresOf(long said) {
        int figures = said < 0 ? 2 : 1;
        for (long rest = Math.abs(said) / 10; rest > 0; rest /= 10) {
            figures++;
        }
        return figures;
    }

    public int figure(long v, int b, int what) {
        if (!within(v, 0, GREATEST_SPLIT) || !within(b, 2, 9999) || !within(what, 0, Text.MOST_PLACES)) {
            return NONE;
        }
        int places = 1;
        int number = 0;
        long rest = v;
        for (int place = 0; place < Text.MOST_PLACES; place++) {
            if (rest > 0) {
                places = place + 1;
            }
            if (place == what) {
                number = (int) (rest % b);
            }
            rest /= b;
        }
        if (rest > 0) {
            return NO_ANSWER;
        }
        return what == Text.MOST_PLACES ? places : number;
    }

    public int meets(int row, int other) {
        if (!areTwoRows(row, other)) {
            return NONE;
        }
        for (int b = 0; b <= GREATEST_BASE; b++) {
            if (text.comesTo(row, b) == text.comesTo(other, b)) {
                return b;
            }
        }
        return NO_ANSWER;
    }

    public int degree(int row) {
        if (!isRow(row)) {
            return NONE;
        }
        for (int place = text.sizes[row] - 1; place >= 0; place--) {
            if (text.numberAt(row, place) != 0) {
                return place;
            }
        }
        return NO_ANSWER;
    }

    public int rest(int row, int b) {
        if (!isRow(row) || !within(b, 0, GREATEST_AT)) {
            return NONE;
        }
        return text.shares.restOf(text.comesTo(row, b));
    }

    public int alike(int row, int other) {
        if (!areTwoRows(row, other)) {
            return NONE;
        }
        int many = 0;
        for (int b = 0; b < text.shares.prime; b++) {
            if (text.shares.restOf(text.comesTo(row, b) - text.comesTo(other, b)) == 0) {
                many++;
            }
        }
        return many;
    }

    private boolean isSumPlace(int row, int other, int place) {
        return isRow(row) && isRow(other) && within(place, 0, LAST_SUM_PLACE);
    }

    public int plus(int row, int other, int place) {
        if (!isSumPlace(row, other, place)) {
            return NO_SUM;
        }
        return text.numberAt(row, place) + text.numberAt(other, place);
    }

    public int times(int row, int other, int place) {
        if (!isSumPlace(row, other, place)) {
            return NO_SUM;
        }
        int sum = 0;
        for (int first = 0; first <= place; first++) {
            sum += text.numberAt(row, first) * text.numberAt(other, place - first);
        }
        return sum;
    }

    // ---- worlds

    public int world(int i, int place) {
        if (place == NONE) {
            return worlds.many;
        }
        if (!isWorld(i) || place < 0 || place >= worlds.places) {
            return NONE;
        }
        return worlds.numberAt(i, place);
    }

    private boolean isWorld(int world) {
        return world >= 0 && world < worlds.many;
    }

    public int clash(int b, boolean later) {
        return within(b, 0, GREATEST_BASE) ? worlds.clashing(b, later) : NONE;
    }

    public int once() {
        for (int b = 0; b <= GREATEST_BASE; b++) {
            if (worlds.clashing(b, true) == NO_ANSWER) {
                return b;
            }
        }
        return NO_ANSWER;
    }

    public int few(int s) {
        return within(s, 0, Worlds.MOST_PLACES) ? worlds.fewestNumbers(s) : NONE;
    }

    public int worldsAt(int b, long v) {
        return within(b, -GREATEST_SAID, GREATEST_SAID) ? worlds.howManyComeTo(b, v) : NONE;
    }

    public int game(int world, int what) {
        if (!isWorld(world) || !within(what, 0, 1)) {
            return NONE;
        }
        fitting.takeAll();
        int questions = 0;
        int figures = 0;
        int said = 0;
        long answer = 0;
        for (; questions < MOST_QUESTIONS && fitting.many > 1; questions++) {
            said = text.ask.question(questions, answer, said);
            worlds.comeBy(said);
            answer = worlds.values[world];
            fitting.keep(answer);
            figures += figuresOf(said);
        }
        if (what == 1) {
            return figures;
        }
        return fitting.many > 1 ? NO_ANSWER : questions;
    }

    // ---- answers that are told, and what fits them

    public int tell(int said, long answer) {
        if (told.isFull() || !within(said, -GREATEST_SAID, GREATEST_SAID)
                || !within(answer, -GREATEST_ANSWER, GREATEST_ANSWER)) {
            return NONE;
        }
        told.add(said, answer);
        return told.many - 1;
    }

    public int forget() {
        int many = told.many;
        told.clear();
        return many;
    }

    /** Whether there are such ones; if so, those that FIT are chosen. */
    private boolean choose(int k, int w, int s) {
        if (!within(k, 0, told.many) || !within(w, 0, MOST_WRONG) || !within(s, 0, Worlds.MOST_PLACES)) {
            return false;
        }
        fitting.select(told, k, w, s);
        return true;
    }

    public int fits(int k, int w, int s, int i) {
        if (i < NONE || !choose(k, w, s)) {
            return NONE;
        }
        if (i == NONE) {
            return fitting.many;
        }
        return i < fitting.many ? fitting.ones[i] : NONE;
    }

    public int sure(int k, int w, int s) {
        return choose(k, w, s) ? fitting.surePlaces() : NONE;
    }

    public int span(int k, int w, int s, int place) {
        if (place < 0 || place >= worlds.places || !choose(k, w, s)) {
            return NONE;
        }
        if (fitting.many == 0) {
            return NO_ANSWER;
        }
        return 10 * fitting.leastAt(place) + fitting.greatestAt(place);
    }

    public int liars(int k, int w, int s) {
        return choose(k, w, s) ? fitting.sureLiars(told, k) : NONE;
    }

    public int next(int k, int w, int s, int what) {
        if (!within(what, 0, 1) || !choose(k, w, s)) {
            return NO_QUESTION;
        }
        if (fitting.many == 0) {
            return NONE_FIT;
        }
        fitting.findQuestion();
        return what == 0 ? fitting.bestSaid : fitting.bestMost;
    }

    public int enough(int k, int w, int s) {
        return choose(k, w, s) ? fitting.enoughQuestions() : NONE;
    }

    public int cost(int k) {
        if (!within(k, 0, told.many)) {
            return NONE;
        }
        int figures = 0;
        for (int i = 0; i < k; i++) {
            figures += figuresOf(told.said[i]);
        }
        return figures;
    }

    // ---- a row that is hidden and asked, answers that are held

    public boolean hide(int row) {
        if (!isRow(row)) {
            return false;
        }
        hidden = row;
        asked = 0;
        told.clear();
        return true;
    }

    public long ask(int b) {
        if (!isRow(hidden) || told.isFull() || !within(b, -GREATEST_SAID, GREATEST_SAID)) {
            return MISSING;
        }
        asked++;
        long answer = text.comesTo(hidden, b);
        if (text.liar > 0 && asked % text.liar == 0) {
            answer++;
        }
        told.add(b, answer);
        return answer;
    }

    public int asks() {
        if (told.many == 0) {
            return text.ask.question(0, 0, 0);
        }
        int last = told.many - 1;
        return text.ask.question(told.many, told.answers[last], told.said[last]);
    }

    private static boolean isSlot(int slot) {
        return slot >= 0 && slot < SLOTS;
    }

    public boolean hold(int slot) {
        if (!isSlot(slot)) {
            return false;
        }
        slots[slot].copy(told);
        slots[slot].holds = true;
        return true;
    }

    public boolean restore(int slot) {
        if (!isSlot(slot) || !slots[slot].holds) {
            return false;
        }
        told.copy(slots[slot]);
        return true;
    }

    // ---- bags of coins

    private static boolean isWeighing(int off, int d) {
        return within(off, 0, GREATEST_OFF) && within(d, 1, 99);
    }

    public int bad(int off, int d) {
        return isWeighing(off, d) ? text.bags.setsOff(off, d) : NONE;
    }

    public int badSet(int off, int d) {
        return isWeighing(off, d) ? text.bags.leastSetOff(off, d) : NONE;
    }

    public boolean allTold() {
        return text.bags.leastGap() != 0;
    }

    public int margin() {
        return text.bags.leastGap();
    }

    // ---- secrets that are shared

    public int secret(int set) {
        return shareRow(set, 0);
    }

    public int shared(int set, int at) {
        if (!text.shares.isSet(set) || !within(at, 0, GREATEST_AT)) {
            return NONE;
        }
        text.shares.findRow(set);
        return text.shares.comesTo(at);
    }

    public int shareRow(int set, int place) {
        if (!text.shares.isSet(set) || place < 0 || place >= Integer.bitCount(set)) {
            return NONE;
        }
        text.shares.findRow(set);
        return text.shares.row[place];
    }

    public int wrong(int n) {
        if (!within(n, 1, Text.MOST_PLACES)) {
            return NONE;
        }
        return n > text.shares.many ? NO_ANSWER : text.shares.offRow(n);
    }

    // ---- pairs

    public long pair(int x, int y) {
        if (!within(x, 0, GREATEST_PAIRED) || !within(y, 0, GREATEST_PAIRED)) {
            return NONE;
        }
        return paired(x, y);
    }

    private static long paired(long x, long y) {
        return triangle(x + y) + y;
    }

    private static long triangle(long n) {
        return n * (n + 1) / 2;
    }

    public long unpair(long v, boolean second) {
        if (!within(v, 0, GREATEST_SPLIT)) {
            return NONE;
        }
        long diagonal = 0;
        for (long step = FARTHEST_STEP; step > 0; step /= 2) {
            if (triangle(diagonal + step) <= v) {
                diagonal += step;
            }
        }
        long y = v - triangle(diagonal);
        return second ? y : diagonal - y;
    }

    public long number(int row) {
        if (!isRow(row)) {
            return NONE;
        }
        int size = text.sizes[row];
        if (size == 0 || size > MOST_PAIRED || text.isSomeBelowZero(row)) {
            return NO_ANSWER;
        }
        long number = text.numberAt(row, 0);
        for (int place = 1; place < size; place++) {
            number = paired(number, text.numberAt(row, place));
        }
        return number;
    }

    // ---- what there is

    public int count(int what) {
        switch (what) {
            case 0:
                return text.rows;
            case 1:
                return text.shares.many;
            case 2:
                return text.bags.many;
            case 3:
                return text.shares.prime;
            case 4:
                return text.worldPlaces;
            case 5:
                return text.greatest;
            case 6:
                return tapeLength;
            case 7:
                return told.many;
            case 8:
                return slotsThatHold();
            case 9:
                return text.liar;
            case 10:
                return hidden;
            case 11:
                return asked;
            default:
                return NONE;
        }
    }

    private int slotsThatHold() {
        int many = 0;
        for (int slot = 0; slot < SLOTS; slot++) {
            if (slots[slot].holds) {
                many++;
            }
        }
        return many;
    }

    /** The TOKENS of a tape. */
    private static final class Tokens {
        // one more than a text may have, so that the one too many has its place
        static final int ROOM = 401;
        static final int LONGEST_NAME = 8;
        static final int LONGEST_INT = 4;
        static final int LETTERS = 27;

        // a sign's kind is its byte; the words come behind all bytes
        static final int END = 0;
        static final int NO_TOKEN = 1;
        static final int NAME = 2;
        static final int INT = 3;
        static final int ROW = 256;
        static final int LIST = 257;
        static final int ASK = 258;
        static final int PRIME = 259;
        static final int SHARE = 260;
        static final int BAG = 261;
        static final int BOUND = 262;
        static final int LIAR = 263;
        static final int IF = 264;
        static final int THEN = 265;
        static final int ELSE = 266;
        // the VARs in the order in which a Law looks at them
        static final int PLACE = 267;
        static final int SAID = 272;
        static final int WORDS = 17;

        final int[] kinds = new int[ROOM + 1];
        final int[] starts = new int[ROOM + 1];
        final long[] values = new long[ROOM + 1];
        private final long[] words = new long[WORDS];
        private int many = 0;

        Tokens() {
            for (int i = 0; i < WORDS; i++) {
                String word = wordText(ROW + i);
                long code = 0;
                for (int k = 0; k < word.length(); k++) {
                    code = withLetter(code, word.charAt(k));
                }
                words[i] = code;
            }
        }

        private static String wordText(int kind) {
            switch (kind) {
                case ROW: return "row";
                case LIST: return "list";
                case ASK: return "ask";
                case PRIME: return "prime";
                case SHARE: return "share";
                case BAG: return "bag";
                case BOUND: return "bound";
                case LIAR: return "liar";
                case IF: return "if";
                case THEN: return "then";
                case ELSE: return "else";
                case PLACE: return "place";
                case PLACE + 1: return "ahead";
                case PLACE + 2: return "many";
                case PLACE + 3: return "turn";
                case PLACE + 4: return "told";
                default: return "said";
            }
        }

        /** Letters as one number, so that names are compared without texts being made. */
        private static long withLetter(long code, int letter) {
            return code * LETTERS + (letter - 'a' + 1);
        }

        /** Cuts a tape to its end, or to the TOKEN too many; what is none stands among them, as it may not be passed. */
        void cut(byte[] tape, int length) {
            many = 0;
            int behind = 0;
            for (int at = 0; at < length && many < ROOM; at++) {
                int sign = tape[at];
                if (at >= behind && !isBlank(sign)) {
                    behind = cutOne(tape, length, at);
                }
            }
            kinds[many] = END;
            starts[many] = length;
        }

        /** Where the TOKEN that begins here has ended. */
        private int cutOne(byte[] tape, int length, int start) {
            int sign = tape[start];
            if (isLetter(sign)) {
                return cutName(tape, length, start);
            }
            if (isDigit(sign)) {
                return cutInt(tape, length, start);
            }
            add(isSign(sign) ? sign : NO_TOKEN, start, 0);
            return start + 1;
        }

        private static boolean isBlank(int sign) {
            return sign == 9 || sign == 10 || sign == 13 || sign == 32;
        }

        private static boolean isLetter(int sign) {
            return sign >= 'a' && sign <= 'z';
        }

        private static boolean isDigit(int sign) {
            return sign >= '0' && sign <= '9';
        }

        private static boolean isSign(int sign) {
            switch (sign) {
                case ';':
                case '=':
                case '+':
                case '-':
                case '*':
                case '/':
                case '<':
                case '(':
                case ')':
                    return true;
                default:
                    return false;
            }
        }

        private void add(int kind, int start, long value) {
            if (many < ROOM) {
                kinds[many] = kind;
                starts[many] = start;
                values[many] = value;
                many++;
            }
        }

        private int cutName(byte[] tape, int length, int start) {
            int at = start;
            long code = 0;
            for (; at < length && isLetter(tape[at]); at++) {
                code = withLetter(code, tape[at]);
            }
            add(at - start > LONGEST_NAME ? NO_TOKEN : kindOf(code), start, code);
            return at;
        }

        private int kindOf(long code) {
            for (int i = 0; i < WORDS; i++) {
                if (words[i] == code) {
                    return ROW + i;
                }
            }
            return NAME;
        }

        private int cutInt(byte[] tape, int length, int start) {
            int at = start;
            int value = 0;
            for (; at < length && isDigit(tape[at]); at++) {
                value = value * 10 + (tape[at] - '0');
            }
            add(at - start > LONGEST_INT ? NO_TOKEN : INT, start, value);
            return at;
        }
    }

    /** Reads a tape into a draft of a text, or finds the first FAULT. */
    private static final class Reader {
        static final int SYNTAX = 1;
        static final int FULL = 2;
        static final int TWICE = 3;
        static final int WRONG = 5;
        static final int GREAT = 6;
        static final int LAST_TOKEN = 400;

        int faultPlace = NONE;
        private int fault = 0;
        private int at = 0;
        private int rowSize = 0;
        private Text draft = new Text();
        private final Tokens tokens = new Tokens();
        private final LawReader laws = new LawReader();

        /** Answers the FAULT (0: none); what the draft holds counts only without. */
        int readDraft(byte[] tape, int length) {
            draft.clear();
            tokens.cut(tape, length);
            at = 0;
            fault = 0;
            faultPlace = NONE;
            boolean going = true;
            for (int tells = 0; tells <= LAST_TOKEN && going && kind() != Tokens.END; tells++) {
                going = readTell();
            }
            if (fault == 0) {
                findGreat();
            }
            return fault;
        }

        /** Gives the draft away; the text that comes for it is written over by the next one. */
        Text exchange(Text old) {
            Text given = draft;
            draft = old;
            return given;
        }

        private int kind() {
            return at <= LAST_TOKEN ? tokens.kinds[at] : Tokens.END;
        }

        /** One TELL; false at a FAULT behind which nothing is looked at. */
        private boolean readTell() {
            int word = kind();
            if (word < Tokens.ROW || word > Tokens.LIAR) {
                return stop(SYNTAX);
            }
            if (draft.isFullOf(word)) {
                return stop(FULL);
            }
            if (!take(word)) {
                return false;
            }
            switch (word) {
                case Tokens.ROW:
                    return takeName() && take(Tokens.INT) && noteSize() && readLaw() && tellRow();
                case Tokens.LIST:
                    return takeName() && readList() && take(';');
                case Tokens.ASK:
                    return readLaw() && tellAsk();
                case Tokens.SHARE:
                    return take(Tokens.INT) && take(Tokens.INT) && tellShare() && take(';');
                case Tokens.BOUND:
                    return take(Tokens.INT) && take(Tokens.INT) && tellBound() && take(';');
                default:
                    return take(Tokens.INT) && tellNumber(word) && take(';');
            }
        }

        /** A FAULT behind which nothing is looked at; it goes ahead of one that was noted. */
        private boolean stop(int number) {
            fault = number;
            faultPlace = tokens.starts[at];
            return false;
        }

        /** A FAULT at a TOKEN that was taken: it counts if no stop comes, and none was noted ahead of it. */
        private void note(int number, int back) {
            if (fault == 0 && at >= back) {
                fault = number;
                faultPlace = tokens.starts[at - back];
            }
        }

        private boolean take(int wanted) {
            if (kind() != wanted) {
                return stop(SYNTAX);
            }
            if (at >= LAST_TOKEN) {
                return stop(FULL);
            }
            at++;
            return true;
        }

        /** The value of a TOKEN that was taken: back 1 is the last one. */
        private long taken(int back) {
            return at >= back ? tokens.values[at - back] : 0;
        }

        private boolean takenWithin(int back, int least, int greatest) {
            boolean well = within(taken(back), least, greatest);
            if (!well) {
                note(WRONG, back);
            }
            return well;
        }

        private boolean takeName() {
            if (!take(Tokens.NAME)) {
                return false;
            }
            if (!draft.tellName(taken(1))) {
                note(TWICE, 1);
            }
            return true;
        }

        private boolean noteSize() {
            rowSize = takenWithin(1, 1, Text.MOST_PLACES) ? (int) taken(1) : 0;
            return true;
        }

        private boolean tellRow() {
            int ahead = 0;
            for (int place = 0; place < rowSize; place++) {
                ahead = laws.law.numberAt(place, ahead, rowSize);
                draft.tellNumber(place, ahead);
            }
            draft.endRow(rowSize);
            return true;
        }

        private boolean tellAsk() {
            draft.ask.copy(laws.law);
            return true;
        }

        private boolean readList() {
            int size = 0;
            for (int numbers = 0; numbers <= Text.MOST_PLACES && kind() != ';'; numbers++) {
                boolean below = kind() == '-';
                if (below && !take('-')) {
                    return false;
                }
                if (size == Text.MOST_PLACES && kind() == Tokens.INT) {
                    return stop(FULL);
                }
                if (!take(Tokens.INT)) {
                    return false;
                }
                takenWithin(1, 0, Text.GREATEST_NUMBER);
                int number = (int) taken(1);
                draft.tellNumber(size, below ? -number : number);
                size++;
            }
            draft.endRow(size);
            return true;
        }

        private boolean tellShare() {
            int number = (int) taken(2);
            if (takenWithin(2, 1, GREATEST_AT) && draft.shares.isAt(number)) {
                note(WRONG, 2);
            }
            takenWithin(1, 0, GREATEST_AT);
            draft.shares.add(number, (int) taken(1), at >= 2 ? tokens.starts[at - 2] : 0);
            return true;
        }

        private boolean tellBound() {
            if (takenWithin(2, 1, Worlds.MOST_PLACES) && takenWithin(1, 1, Worlds.GREATEST_NUMBER)) {
                draft.worldPlaces = (int) taken(2);
                draft.greatest = (int) taken(1);
            }
            return true;
        }

        private boolean tellNumber(int word) {
            int number = (int) taken(1);
            if (word == Tokens.BAG) {
                takenWithin(1, 0, Bags.MOST_COINS);
                draft.bags.add(number);
            } else if (word == Tokens.LIAR) {
                takenWithin(1, 0, Text.GREATEST_LIAR);
                draft.liar = number;
            } else if (isPrime(number)) {
                draft.shares.prime = number;
            } else {
                note(WRONG, 1);
            }
            return true;
        }

        private static boolean isPrime(int number) {
            for (int divisor = 2; divisor < number; divisor++) {
                if (number % divisor == 0) {
                    return false;
                }
            }
            return within(number, 2, Shares.GREATEST_PRIME);
        }

        /** A LAW with the signs around it, from = to ; */
        private boolean readLaw() {
            if (!take('=')) {
                return false;
            }
            laws.begin();
            for (int turns = 0; turns <= LAST_TOKEN && !laws.isOver; turns++) {
                int number = laws.wantsUnit ? laws.unit(kind(), (int) taken(0)) : laws.behindUnit(kind());
                if (number != 0) {
                    return stop(number);
                }
                if (!take(kind())) {
                    return false;
                }
            }
            return true;
        }

        private void findGreat() {
            for (int i = 0; i < draft.shares.many && fault == 0; i++) {
                if (draft.shares.ats[i] >= draft.shares.prime) {
                    fault = GREAT;
                    faultPlace = draft.shares.starts[i];
                }
            }
        }
    }

    /** Turns a LAW, TOKEN by TOKEN, into steps; each answer is 0, or the FAULT at that TOKEN. */
    private static final class LawReader {
        static final int MOST_IFS = 4;
        static final int MOST_NESTED = 6;
        // an open ( and two signs that wait for their right side, for each of those within one another
        static final int MOST_WAITING = 3 * (MOST_NESTED + 1);

        final Law law = new Law();
        boolean isOver = true;
        boolean wantsUnit = true;
        private boolean mayBranch = true;
        private int closer = ';';
        private int ifs = 0;
        private int nested = 0;
        private int branch = 0;
        private final int[] waiting = new int[MOST_WAITING];
        private int waits = 0;

        void begin() {
            law.clear();
            isOver = false;
            wantsUnit = true;
            mayBranch = true;
            closer = ';';
            ifs = 0;
            nested = 0;
            waits = 0;
        }

        int unit(int kind, int value) {
            boolean branches = kind == Tokens.IF && mayBranch;
            mayBranch = false;
            if (branches) {
                return branchBegins();
            }
            if (kind == '(') {
                return nestBegins();
            }
            wantsUnit = false;
            if (kind == Tokens.INT) {
                law.add(Law.PUSH, value);
                return 0;
            }
            if (kind >= Tokens.PLACE && kind <= Tokens.SAID) {
                law.add(Law.LOOK, kind - Tokens.PLACE);
                return 0;
            }
            return Reader.SYNTAX;
        }

        private int branchBegins() {
            if (ifs == MOST_IFS) {
                return Reader.FULL;
            }
            ifs++;
            closer = '<';
            return 0;
        }

        private int nestBegins() {
            if (nested == MOST_NESTED) {
                return Reader.FULL;
            }
            nested++;
            letWait('(');
            return 0;
        }

        int behindUnit(int kind) {
            int rank = rankOf(kind);
            if (rank > 0) {
                writeWaiting(rank);
                letWait(kind);
                wantsUnit = true;
                return 0;
            }
            if (kind != (nested > 0 ? ')' : closer)) {
                return Reader.SYNTAX;
            }
            writeWaiting(1);
            if (nested > 0) {
                nestEnds();
            } else {
                partEnds();
            }
            return 0;
        }

        private static int rankOf(int kind) {
            if (kind == '*' || kind == '/') {
                return 2;
            }
            return kind == '+' || kind == '-' ? 1 : 0;
        }

        private void letWait(int sign) {
            if (waits < MOST_WAITING) {
                waiting[waits] = sign;
                waits++;
            }
        }

        /** Writes the signs that wait and bind as closely as this rank, up to the last open ( */
        private void writeWaiting(int rank) {
            for (; waits > 0 && rankOf(waiting[waits - 1]) >= rank; waits--) {
                law.add(waiting[waits - 1], 0);
            }
        }

        private void nestEnds() {
            nested--;
            if (waits > 0) {
                waits--;
            }
        }

        private void partEnds() {
            wantsUnit = true;
            switch (closer) {
                case '<':
                    closer = Tokens.THEN;
                    break;
                case Tokens.THEN:
                    branch = law.add(Law.LESS, 0);
                    closer = Tokens.ELSE;
                    break;
                case Tokens.ELSE:
                    law.add(Law.GIVE, 0);
                    law.branchHere(branch);
                    closer = ';';
                    mayBranch = true;
                    break;
                default:
                    law.add(Law.GIVE, 0);
                    isOver = true;
                    break;
            }
        }
    }

    /** A LAW as steps for a stack; a sign's step is its byte. */
    private static final class Law {
        static final int ROOM = Tokens.ROOM + 1;
        static final int PUSH = 1;
        static final int LOOK = 2;
        static final int LESS = 3;
        static final int GIVE = 4;
        static final int LOOKS = 6;
        static final int TURN = 3;
        static final int STACK = 2 * LawReader.MOST_WAITING;

        private final int[] steps = new int[ROOM];
        private final int[] values = new int[ROOM];
        private int many = 0;
        private final int[] looks = new int[LOOKS];
        private final int[] stack = new int[STACK];

        void clear() {
            many = 0;
        }

        /** The step's number. */
        int add(int step, int value) {
            if (many >= ROOM) {
                return ROOM - 1;
            }
            steps[many] = step;
            values[many] = value;
            many++;
            return many - 1;
        }

        void copy(Law from) {
            many = from.many;
            System.arraycopy(from.steps, 0, steps, 0, ROOM);
            System.arraycopy(from.values, 0, values, 0, ROOM);
        }

        /** Where a branch goes on that is not taken. */
        void branchHere(int step) {
            if (step >= 0 && step < ROOM) {
                values[step] = many;
            }
        }

        /** What a row has at a PLACE. */
        int numberAt(int place, int ahead, int size) {
            look(place, ahead, size, 0, 0, 0);
            return Math.max(-GREATEST_SAID, Math.min(GREATEST_SAID, worth()));
        }

        /** What is said next. */
        int question(int turn, long answer, int said) {
            look(0, 0, 0, turn, (int) (answer % 1000), said);
            return Math.max(-GREATEST_SAID, Math.min(GREATEST_SAID, worth()));
        }

        private void look(int place, int ahead, int size, int turn, int told, int said) {
            looks[0] = place;
            looks[1] = ahead;
            looks[2] = size;
            looks[TURN] = turn;
            looks[4] = told;
            looks[5] = said;
        }

        private int worth() {
            int depth = 0;
            int at = 0;
            for (int turns = 0; turns < ROOM && at < many && depth < STACK; turns++) {
                int step = steps[at];
                int value = values[at];
                at++;
                if (step == PUSH) {
                    stack[depth] = value;
                    depth++;
                } else if (step == LOOK) {
                    stack[depth] = value >= 0 && value < LOOKS ? looks[value] : 0;
                    depth++;
                } else if (step == GIVE) {
                    return depth > 0 ? stack[depth - 1] : 0;
                } else if (depth < 2) {
                    return 0;
                } else if (step == LESS) {
                    depth -= 2;
                    // a branch leads on, never back
                    at = stack[depth] < stack[depth + 1] ? at : Math.max(at, value);
                } else {
                    depth--;
                    if (step == '/' && stack[depth] == 0) {
                        return 0;
                    }
                    stack[depth - 1] = joined(step, stack[depth - 1], stack[depth]);
                }
            }
            return 0;
        }

        private static int joined(int sign, int left, int right) {
            switch (sign) {
                case '+':
                    return left + right;
                case '-':
                    return left - right;
                case '*':
                    return left * right;
                default:
                    return right == 0 ? 0 : left / right;
            }
        }
    }

    /** What a text tells. */
    private static final class Text {
        static final int MOST_ROWS = 6;
        static final int MOST_PLACES = 6;
        static final int GREATEST_NUMBER = 99;
        static final int GREATEST_LIAR = 9;

        int rows = 0;
        final int[] sizes = new int[MOST_ROWS];
        private final long[] names = new long[MOST_ROWS];
        private final int[] numbers = new int[MOST_ROWS * MOST_PLACES];
        final Law ask = new Law();
        final Shares shares = new Shares();
        final Bags bags = new Bags();
        int worldPlaces = 3;
        int greatest = 3;
        int liar = 0;

        Text() {
            clear();
        }

        void clear() {
            rows = 0;
            ask.clear();
            ask.add(Law.LOOK, Law.TURN);
            ask.add(Law.PUSH, 1);
            ask.add('+', 0);
            ask.add(Law.GIVE, 0);
            shares.clear();
            bags.clear();
            worldPlaces = 3;
            greatest = 3;
            liar = 0;
        }

        /** Whether one more of what a word tells has no room. */
        boolean isFullOf(int word) {
            switch (word) {
                case Tokens.ROW:
                case Tokens.LIST:
                    return rows >= MOST_ROWS;
                case Tokens.SHARE:
                    return shares.many >= Shares.MOST;
                case Tokens.BAG:
                    return bags.many >= Bags.MOST;
                default:
                    return false;
            }
        }

        /** The name of the row that is told next; false if it was told already. */
        boolean tellName(long name) {
            boolean isNew = true;
            for (int row = 0; row < rows; row++) {
                if (names[row] == name) {
                    isNew = false;
                }
            }
            if (rows < MOST_ROWS) {
                names[rows] = name;
            }
            return isNew;
        }

        /** A number of the row that is told next. */
        void tellNumber(int place, int number) {
            if (rows < MOST_ROWS && place < MOST_PLACES) {
                numbers[rows * MOST_PLACES + place] = number;
            }
        }

        /** Ends the row whose numbers were told. */
        void endRow(int size) {
            if (rows < MOST_ROWS) {
                sizes[rows] = size;
                rows++;
            }
        }

        /** 0 beyond the row's places. */
        int numberAt(int row, int place) {
            boolean isThere = row >= 0 && row < rows && place >= 0 && place < sizes[row];
            return isThere ? numbers[row * MOST_PLACES + place] : 0;
        }

        long comesTo(int row, long b) {
            long sum = 0;
            for (int place = MOST_PLACES - 1; place >= 0; place--) {
                sum = sum * b + numberAt(row, place);
            }
            return sum;
        }

        boolean isSomeBelowZero(int row) {
            for (int place = 0; place < MOST_PLACES; place++) {
                if (numberAt(row, place) < 0) {
                    return true;
                }
            }
            return false;
        }
    }

    /** Coins taken out of bags: what each set of bags has of them. */
    private static final class Bags {
        static final int MOST = 9;
        static final int MOST_COINS = 999;
        static final int SETS = 512;

        int many = 0;
        private final int[] coins = new int[SETS];
        // 1 at each number of coins that some set has
        private final byte[] marks = new byte[MOST * MOST_COINS + 1];

        void clear() {
            many = 0;
            coins[0] = 0;
        }

        void add(int more) {
            if (many >= MOST) {
                return;
            }
            int sets = sets();
            for (int set = 0; set < sets; set++) {
                coins[sets + set] = coins[set] + more;
            }
            many++;
        }

        private int sets() {
            return 1 << many;
        }

        int setsOff(int off, int d) {
            int found = 0;
            for (int set = 0; set < sets(); set++) {
                if (coins[set] * d == off) {
                    found++;
                }
            }
            return found;
        }

        int leastSetOff(int off, int d) {
            for (int set = 0; set < sets(); set++) {
                if (coins[set] * d == off) {
                    return set;
                }
            }
            return NO_ANSWER;
        }

        /** The least by which coins of two sets differ; -2 if there is but one set. */
        int leastGap() {
            if (many == 0) {
                return NO_ANSWER;
            }
            Arrays.fill(marks, (byte) 0);
            for (int set = 0; set < sets(); set++) {
                int sum = coins[set];
                if (sum >= marks.length || marks[sum] != 0) {
                    return 0;
                }
                marks[sum] = 1;
            }
            return leastBetweenMarks();
        }

        private int leastBetweenMarks() {
            int least = marks.length;
            // no set has fewer coins than the empty one, which has none
            int last = 0;
            for (int sum = 1; sum < marks.length; sum++) {
                if (marks[sum] != 0) {
                    least = Math.min(least, sum - last);
                    last = sum;
                }
            }
            return least;
        }
    }

    /** Shares of a secret, and the row that comes to each one of a set of them. */
    private static final class Shares {
        static final int MOST = 8;
        static final int GREATEST_PRIME = 97;

        int many = 0;
        int prime = GREATEST_PRIME;
        final int[] ats = new int[MOST];
        final int[] starts = new int[MOST];
        private final int[] whats = new int[MOST];
        final int[] row = new int[Text.MOST_PLACES];
        private final int[] product = new int[Text.MOST_PLACES + 1];

        void clear() {
            many = 0;
            prime = GREATEST_PRIME;
        }

        void add(int at, int what, int start) {
            if (many < MOST) {
                ats[many] = at;
                whats[many] = what;
                starts[many] = start;
                many++;
            }
        }

        boolean isAt(int number) {
            for (int i = 0; i < many; i++) {
                if (ats[i] == number) {
                    return true;
                }
            }
            return false;
        }

        boolean isSet(int set) {
            return set > 0 && set < 1 << many && Integer.bitCount(set) <= Text.MOST_PLACES;
        }

        private static boolean isIn(int set, int i) {
            return (set >> i & 1) != 0;
        }

        /** 0 and more, also of a number below 0. */
        int restOf(long number) {
            return prime < 2 ? 0 : (int) Math.floorMod(number, (long) prime);
        }

        /** The row is the sum of rows that come to one share each, and to 0 at all others of the set. */
        void findRow(int set) {
            Arrays.fill(row, 0);
            for (int i = 0; i < many; i++) {
                if (isIn(set, i)) {
                    int factor = restOf(whats[i] * turnedOver(othersProduct(set, i)));
                    for (int place = 0; place < row.length; place++) {
                        row[place] = restOf(row[place] + factor * product[place]);
                    }
                }
            }
        }

        /** The product of (x - at) for all others of a set; the answer is what it comes to at this one. */
        private int othersProduct(int set, int i) {
            Arrays.fill(product, 0);
            product[0] = 1;
            int worth = 1;
            for (int other = 0; other < many; other++) {
                if (other != i && isIn(set, other)) {
                    for (int place = product.length - 1; place > 0; place--) {
                        product[place] = restOf(product[place - 1] - ats[other] * product[place]);
                    }
                    product[0] = restOf(-ats[other] * product[0]);
                    worth = restOf(worth * (ats[i] - ats[other]));
                }
            }
            return worth;
        }

        /** By what a number comes to 1 by PRIME. */
        private int turnedOver(int number) {
            for (int factor = 1; factor < prime; factor++) {
                if (restOf(number * factor) == 1) {
                    return factor;
                }
            }
            return 0;
        }

        /** What the row found last comes to. */
        int comesTo(int at) {
            int sum = 0;
            for (int place = row.length - 1; place >= 0; place--) {
                sum = restOf(sum * at + row[place]);
            }
            return sum;
        }

        private int sharesOff() {
            int off = 0;
            for (int i = 0; i < many; i++) {
                if (comesTo(ats[i]) != restOf(whats[i])) {
                    off |= 1 << i;
                }
            }
            return off;
        }

        /** The shares off the row to which the most of them come, of all rows by n shares. */
        int offRow(int n) {
            int fewest = 0;
            boolean found = false;
            for (int set = 1; set < 1 << many; set++) {
                if (Integer.bitCount(set) == n && isSet(set)) {
                    findRow(set);
                    int off = sharesOff();
                    if (!found || Integer.bitCount(off) < Integer.bitCount(fewest)) {
                        fewest = off;
                        found = true;
                    }
                }
            }
            return fewest;
        }
    }

    /** Answers that are TOLD. */
    private static final class Told {
        static final int MOST = 20;

        int many = 0;
        final int[] said = new int[MOST];
        final long[] answers = new long[MOST];
        // asked for of slots alone
        boolean holds = false;

        void clear() {
            many = 0;
        }

        boolean isFull() {
            return many >= MOST;
        }

        void add(int number, long answer) {
            if (many < MOST) {
                said[many] = number;
                answers[many] = answer;
                many++;
            }
        }

        void copy(Told from) {
            many = from.many;
            System.arraycopy(from.said, 0, said, 0, MOST);
            System.arraycopy(from.answers, 0, answers, 0, MOST);
        }
    }

    /** All WORLDS in their order, and what they come to by one number. */
    private static final class Worlds {
        static final int MOST = 10000;
        static final int MOST_PLACES = 4;
        static final int GREATEST_NUMBER = 9;
        static final int MOST_FEW = 9;
        // more than any of them comes to by a number of 1 .. 9
        static final long BEYOND_FEW = 10000;

        int places = 0;
        int many = 1;
        private int greatest = 0;
        final long[] values = new long[MOST];
        final int[] notZero = new int[MOST];
        private final int[] groups = new int[MOST];
        final Leaders leaders = new Leaders();

        void settle(int placesOfEach, int greatestNumber) {
            places = placesOfEach;
            greatest = greatestNumber;
            int filled = 1;
            notZero[0] = 0;
            for (int place = 0; place < places; place++) {
                int block = filled;
                for (int i = block; i < block * (greatest + 1) && i < MOST; i++) {
                    notZero[i] = notZero[i % block] + 1;
                    filled++;
                }
            }
            many = filled;
        }

        int numberAt(int world, int place) {
            int rest = world;
            int base = Math.max(greatest + 1, 2);
            for (int i = 0; i < place; i++) {
                rest /= base;
            }
            return rest % base;
        }

        /** Fills values: a place more is all that was filled, again for each number at that place. */
        void comeBy(long b) {
            int filled = 1;
            long power = 1;
            values[0] = 0;
            for (int place = 0; place < places; place++) {
                int block = filled;
                for (int i = 0; i < block * greatest && filled < MOST; i++) {
                    values[filled] = values[filled - block] + power;
                    filled++;
                }
                power *= b;
            }
        }

        int howManyComeTo(int b, long value) {
            comeBy(b);
            int found = 0;
            for (int world = 0; world < many; world++) {
                if (values[world] == value) {
                    found++;
                }
            }
            return found;
        }

        int clashing(int b, boolean later) {
            comeBy(b);
            leaders.clear(many);
            for (int world = 0; world < many; world++) {
                int first = leaders.leaderOf(values[world], world);
                if (first != world) {
                    return later ? world : first;
                }
            }
            return NO_ANSWER;
        }

        /** By each number more, groups that came to the same by all ahead of it are parted. */
        int fewestNumbers(int s) {
            Arrays.fill(groups, 0);
            for (int n = 1; n <= MOST_FEW; n++) {
                if (partGroups(n, s)) {
                    return n;
                }
            }
            return NO_ANSWER;
        }

        /** Whether each one is alone in its group then. */
        private boolean partGroups(int n, int s) {
            boolean alone = true;
            comeBy(n);
            leaders.clear(many);
            for (int world = 0; world < many; world++) {
                if (notZero[world] <= s) {
                    groups[world] = leaders.leaderOf(groups[world] * BEYOND_FEW + values[world], world);
                    alone = alone && groups[world] == world;
                }
            }
            return alone;
        }
    }

    /** Finds, for each of many numbers, the first one that had the same: a table with open places. */
    private static final class Leaders {
        static final int ROOM = 16384;
        static final long MIX = 0x9E3779B97F4A7C15L;

        private final long[] keys = new long[ROOM];
        // one more than the leader; 0: the place is open
        private final int[] takers = new int[ROOM];
        private int size = ROOM;

        /** Opens as much of the table as so many need: a small one is cleared sooner. */
        void clear(int many) {
            size = 16;
            while (size < ROOM && size < many + many / 2) {
                size *= 2;
            }
            Arrays.fill(takers, 0, size, 0);
        }

        int leaderOf(long key, int one) {
            int at = (int) (key * MIX >>> 48) & (size - 1);
            for (int tries = 0; tries < size; tries++) {
                if (takers[at] == 0) {
                    takers[at] = one + 1;
                    keys[at] = key;
                    return one;
                }
                if (keys[at] == key) {
                    return takers[at] - 1;
                }
                at = (at + 1) & (size - 1);
            }
            return one;
        }
    }

    /** Those of WORLDS that FIT what is KNOWN, and what is asked of them. */
    private static final class Fitting {
        static final int MOST_FOR_ENOUGH = 24;
        static final int FARTHEST_SAID = 9;
        static final int NUMBERS_SAID = 2 * FARTHEST_SAID + 1;

        final int[] ones = new int[Worlds.MOST];
        int many = 0;
        int bestSaid = 0;
        int bestMost = 0;
        private final Worlds worlds;
        // how many answers are not so for a world; how many come to the same as a leader
        private final int[] tally = new int[Worlds.MOST];
        private final long[][] answers = new long[NUMBERS_SAID][MOST_FOR_ENOUGH];

        Fitting(Worlds all) {
            worlds = all;
        }

        void takeAll() {
            many = worlds.many;
            for (int world = 0; world < many; world++) {
                ones[world] = world;
            }
        }

        /** Keeps those that come to an answer by the number that was said last. */
        void keep(long answer) {
            int kept = 0;
            for (int i = 0; i < many; i++) {
                if (worlds.values[ones[i]] == answer) {
                    ones[kept] = ones[i];
                    kept++;
                }
            }
            many = kept;
        }

        void select(Told told, int known, int mostWrong, int mostNotZero) {
            many = 0;
            for (int world = 0; world < worlds.many; world++) {
                if (worlds.notZero[world] <= mostNotZero) {
                    ones[many] = world;
                    tally[world] = 0;
                    many++;
                }
            }
            for (int i = 0; i < known; i++) {
                worlds.comeBy(told.said[i]);
                dropWrong(told.answers[i], mostWrong);
            }
        }

        private void dropWrong(long answer, int mostWrong) {
            int kept = 0;
            for (int i = 0; i < many; i++) {
                int world = ones[i];
                if (worlds.values[world] != answer) {
                    tally[world]++;
                }
                if (tally[world] <= mostWrong) {
                    ones[kept] = world;
                    kept++;
                }
            }
            many = kept;
        }

        int leastAt(int place) {
            int least = Worlds.GREATEST_NUMBER;
            for (int i = 0; i < many; i++) {
                least = Math.min(least, worlds.numberAt(ones[i], place));
            }
            return least;
        }

        int greatestAt(int place) {
            int greatest = 0;
            for (int i = 0; i < many; i++) {
                greatest = Math.max(greatest, worlds.numberAt(ones[i], place));
            }
            return greatest;
        }

        int surePlaces() {
            int sure = 0;
            for (int place = 0; place < worlds.places && many > 0; place++) {
                if (leastAt(place) == greatestAt(place)) {
                    sure |= 1 << place;
                }
            }
            return sure;
        }

        int sureLiars(Told told, int known) {
            int liars = 0;
            for (int i = 0; i < known && many > 0; i++) {
                worlds.comeBy(told.said[i]);
                if (!isSoForSome(told.answers[i])) {
                    liars |= 1 << i;
                }
            }
            return liars;
        }

        private boolean isSoForSome(long answer) {
            for (int i = 0; i < many; i++) {
                if (worlds.values[ones[i]] == answer) {
                    return true;
                }
            }
            return false;
        }

        void findQuestion() {
            bestSaid = -FARTHEST_SAID;
            bestMost = many + 1;
            for (int said = -FARTHEST_SAID; said <= FARTHEST_SAID && bestMost > 1; said++) {
                int most = mostAlike(said, bestMost);
                if (most < bestMost) {
                    bestSaid = said;
                    bestMost = most;
                }
            }
        }

        /** How many come to the same, where they are the most; so many at least are not counted on. */
        private int mostAlike(int said, int tooMany) {
            worlds.comeBy(said);
            worlds.leaders.clear(many);
            Arrays.fill(tally, 0, many, 0);
            int most = 0;
            for (int i = 0; i < many && most < tooMany; i++) {
                int leader = worlds.leaders.leaderOf(worlds.values[ones[i]], i);
                tally[leader]++;
                most = Math.max(most, tally[leader]);
            }
            return most;
        }

        int enoughQuestions() {
            if (many > MOST_FOR_ENOUGH) {
                return NO_ANSWER;
            }
            if (many <= 1) {
                return 0;
            }
            fillAnswers();
            if (isToldApart((1 << many) - 1)) {
                return 1;
            }
            for (int said = 0; said < NUMBERS_SAID; said++) {
                if (areGroupsToldApart(said)) {
                    return 2;
                }
            }
            return 3;
        }

        private void fillAnswers() {
            for (int said = 0; said < NUMBERS_SAID; said++) {
                worlds.comeBy(said - FARTHEST_SAID);
                for (int i = 0; i < many; i++) {
                    answers[said][i] = worlds.values[ones[i]];
                }
            }
        }

        /** Whether all that give the same answer are told apart by one number more, not one for all. */
        private boolean areGroupsToldApart(int said) {
            for (int i = 0; i < many; i++) {
                if (!isToldApart(groupOf(i, said))) {
                    return false;
                }
            }
            return true;
        }

        /** Those, as bits, that give the same answer as one; none if an earlier one does, as that one has them. */
        private int groupOf(int one, int said) {
            int group = 0;
            for (int i = 0; i < many; i++) {
                if (answers[said][i] == answers[said][one]) {
                    if (i < one) {
                        return 0;
                    }
                    group |= 1 << i;
                }
            }
            return group;
        }

        private boolean isToldApart(int set) {
            for (int said = 0; said < NUMBERS_SAID; said++) {
                if (isApartBy(set, said)) {
                    return true;
                }
            }
            return false;
        }

        private boolean isApartBy(int set, int said) {
            for (int i = 0; i < many; i++) {
                for (int j = 0; j < i; j++) {
                    if ((set >> i & set >> j & 1) != 0 && answers[said][i] == answers[said][j]) {
                        return false;
                    }
                }
            }
            return true;
        }
    }
}
