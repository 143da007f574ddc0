import java.math.BigInteger;
import java.util.ArrayList;
import java.util.Arrays;
import java.util.HashMap;
import java.util.HashSet;
import java.util.List;
import java.util.Map;
import java.util.Set;
import java.util.TreeMap;

/**
 * The document once more, as slowly and plainly as can be and in other ways than TwoAsks has: texts are read by
 * descent and their laws looked at as trees, rows come to BigIntegers, worlds are made anew for each call.
 * NaiveRunsTest holds TwoAsks against it.
 */
final class Naive {
    static final long MISSING = -2000000000000000000L;
    static final Set<String> WORDS = Set.of("row", "list", "ask", "prime", "share", "bag", "bound", "liar", "if",
            "then", "else", "place", "ahead", "many", "turn", "told", "said");

    /** A text as it is told. */
    static final class Said {
        List<int[]> rows = new ArrayList<>();
        List<String> names = new ArrayList<>();
        List<int[]> shares = new ArrayList<>();
        List<Integer> bags = new ArrayList<>();
        int prime = 97;
        int places = 3;
        int greatest = 3;
        int liar = 0;
        List<Node[]> ask = List.<Node[]>of(new Node[] {new Node("+", 0, new Node("turn", 0, null, null),
                new Node("int", 1, null, null))});
    }

    record Node(String kind, int value, Node left, Node right) { }

    record Token(String kind, String text, int start) { }

    record Answer(int said, long answer) { }

    static final class Stop extends RuntimeException {
        private static final long serialVersionUID = 1L;
        final int number;
        final int place;

        Stop(int number, int place) {
            super(null, null, false, false);
            this.number = number;
            this.place = place;
        }
    }

    static final class DividedByZero extends RuntimeException {
        private static final long serialVersionUID = 1L;

        DividedByZero() {
            super(null, null, false, false);
        }
    }

    String tape = "";
    int faultPlace = -1;
    Said text = new Said();
    List<Answer> told = new ArrayList<>();
    Map<Integer, List<Answer>> slots = new HashMap<>();
    int hidden = -2;
    int asked = 0;

    // reading
    private String source;
    private int at;
    private int tokensTaken;
    private Token look;
    private Said draft;
    private TreeMap<Integer, Integer> notes;
    private int firstGreat;
    private List<Integer> shareStarts;

    int feed(int... words) {
        if (tape.length() + 20 > 2000) {
            return -1;
        }
        for (int word : words) {
            tape += "" + (char) (word >> 24 & 255) + (char) (word >> 16 & 255) + (char) (word >> 8 & 255)
                    + (char) (word & 255);
        }
        return tape.length();
    }

    int back(int n) {
        if (n < 0 || n > tape.length()) {
            return -1;
        }
        tape = tape.substring(0, tape.length() - n);
        return tape.length();
    }

    int read() {
        source = tape;
        tape = "";
        at = 0;
        tokensTaken = 0;
        draft = new Said();
        notes = new TreeMap<>();
        shareStarts = new ArrayList<>();
        faultPlace = -1;
        try {
            peel();
            while (!look.kind.equals("end")) {
                tell();
            }
            for (Map.Entry<Integer, Integer> note : notes.entrySet()) {
                throw new Stop(note.getValue(), note.getKey());
            }
            for (int i = 0; i < draft.shares.size(); i++) {
                if (draft.shares.get(i)[0] >= draft.prime) {
                    throw new Stop(6, shareStarts.get(i));
                }
            }
        } catch (Stop stop) {
            faultPlace = stop.place;
            return stop.number;
        }
        text = draft;
        told = new ArrayList<>();
        slots = new HashMap<>();
        hidden = -2;
        asked = 0;
        return 0;
    }

    /** Lays the next token in look. */
    private void peel() {
        while (at < source.length() && "\t\n\r ".indexOf(source.charAt(at)) >= 0) {
            at++;
        }
        int start = at;
        if (at == source.length()) {
            look = new Token("end", "", start);
            return;
        }
        String rest = source.substring(at);
        String letters = rest.replaceFirst("(?s)[^a-z].*", "");
        String digits = rest.replaceFirst("(?s)[^0-9].*", "");
        if (letters.length() > 0) {
            at += letters.length();
            String kind = letters.length() > 8 ? "none" : WORDS.contains(letters) ? letters : "name";
            look = new Token(kind, letters, start);
        } else if (digits.length() > 0) {
            at += digits.length();
            look = new Token(digits.length() > 4 ? "none" : "int", digits, start);
        } else {
            at++;
            String sign = rest.substring(0, 1);
            look = new Token(";=+-*/<()".contains(sign) ? sign : "none", sign, start);
        }
    }

    private Token need(String... kinds) {
        if (!Arrays.asList(kinds).contains(look.kind)) {
            throw new Stop(1, look.start);
        }
        Token taken = look;
        tokensTaken++;
        if (tokensTaken > 400) {
            throw new Stop(2, taken.start);
        }
        peel();
        return taken;
    }

    private void roomFor(boolean there) {
        if (!there) {
            throw new Stop(2, look.start);
        }
    }

    private void note(int number, Token token) {
        notes.merge(token.start, number, Math::min);
    }

    private int ranged(int least, int greatest) {
        Token token = need("int");
        int value = Integer.parseInt(token.text);
        if (value < least || value > greatest) {
            note(5, token);
        }
        return value;
    }

    private void name() {
        Token name = need("name");
        if (draft.names.contains(name.text)) {
            note(3, name);
        }
        draft.names.add(name.text);
    }

    private void tell() {
        switch (look.kind) {
            case "row" -> {
                roomFor(draft.rows.size() < 6);
                need("row");
                name();
                int size = ranged(1, 6);
                List<Node[]> law = law();
                need(";");
                int[] row = new int[Math.min(size, 6)];
                for (int k = 0; k < row.length; k++) {
                    row[k] = worth(law, Map.of("place", k, "ahead", k == 0 ? 0 : row[k - 1], "many", row.length));
                }
                draft.rows.add(row);
            }
            case "list" -> {
                roomFor(draft.rows.size() < 6);
                need("list");
                name();
                List<Integer> numbers = new ArrayList<>();
                while (!look.kind.equals(";")) {
                    int sign = 1;
                    if (look.kind.equals("-")) {
                        need("-");
                        sign = -1;
                    }
                    if (look.kind.equals("int")) {
                        roomFor(numbers.size() < 6);
                    }
                    numbers.add(sign * ranged(0, 99));
                }
                need(";");
                draft.rows.add(numbers.stream().mapToInt(n -> n).toArray());
            }
            case "ask" -> {
                need("ask");
                draft.ask = law();
                need(";");
            }
            case "prime" -> {
                need("prime");
                Token token = look;
                int prime = ranged(2, 97);
                if (!BigInteger.valueOf(prime).isProbablePrime(30)) {
                    note(5, token);
                }
                draft.prime = prime;
                need(";");
            }
            case "share" -> {
                roomFor(draft.shares.size() < 8);
                need("share");
                Token token = look;
                int number = ranged(1, 96);
                for (int[] share : draft.shares) {
                    if (share[0] == number) {
                        note(5, token);
                    }
                }
                shareStarts.add(token.start);
                draft.shares.add(new int[] {number, ranged(0, 96)});
                need(";");
            }
            case "bag" -> {
                roomFor(draft.bags.size() < 9);
                need("bag");
                draft.bags.add(ranged(0, 999));
                need(";");
            }
            case "bound" -> {
                need("bound");
                draft.places = ranged(1, 4);
                draft.greatest = ranged(1, 9);
                need(";");
            }
            case "liar" -> {
                need("liar");
                draft.liar = ranged(0, 9);
                need(";");
            }
            default -> throw new Stop(1, look.start);
        }
    }

    /** Arms of three (less, than, so), the last one alone. */
    private List<Node[]> law() {
        need("=");
        List<Node[]> arms = new ArrayList<>();
        while (look.kind.equals("if")) {
            roomFor(arms.size() < 4);
            need("if");
            Node less = sum(0);
            need("<");
            Node than = sum(0);
            need("then");
            Node so = sum(0);
            need("else");
            arms.add(new Node[] {less, than, so});
        }
        arms.add(new Node[] {sum(0)});
        return arms;
    }

    private Node sum(int depth) {
        Node left = part(depth);
        while (look.kind.equals("+") || look.kind.equals("-")) {
            String sign = need("+", "-").kind;
            left = new Node(sign, 0, left, part(depth));
        }
        return left;
    }

    private Node part(int depth) {
        Node left = unit(depth);
        while (look.kind.equals("*") || look.kind.equals("/")) {
            String sign = need("*", "/").kind;
            left = new Node(sign, 0, left, unit(depth));
        }
        return left;
    }

    private Node unit(int depth) {
        if (look.kind.equals("(")) {
            roomFor(depth < 6);
            need("(");
            Node inner = sum(depth + 1);
            need(")");
            return inner;
        }
        Token token = need("int", "place", "ahead", "many", "turn", "told", "said");
        return token.kind.equals("int") ? new Node("int", Integer.parseInt(token.text), null, null)
                : new Node(token.kind, 0, null, null);
    }

    private static int worth(List<Node[]> law, Map<String, Integer> looks) {
        int worth = 0;
        try {
            for (Node[] arm : law) {
                if (arm.length == 1) {
                    worth = worth(arm[0], looks);
                } else if (worth(arm[0], looks) < worth(arm[1], looks)) {
                    worth = worth(arm[2], looks);
                    break;
                }
            }
        } catch (DividedByZero none) {
            return 0;
        }
        return worth < -99 ? -99 : worth > 99 ? 99 : worth;
    }

    private static int worth(Node node, Map<String, Integer> looks) {
        if (node.kind.equals("int")) {
            return node.value;
        }
        if (node.left == null) {
            return looks.getOrDefault(node.kind, 0);
        }
        long left = worth(node.left, looks);
        long right = worth(node.right, looks);
        switch (node.kind) {
            case "+":
                return (int) (left + right);
            case "-":
                return (int) (left - right);
            case "*":
                return (int) (left * right);
            default:
                if (right == 0) {
                    throw new DividedByZero();
                }
                return (int) (left / right);
        }
    }

    int place() {
        return faultPlace;
    }

    // rows

    private boolean isRow(int row) {
        return row >= 0 && row < text.rows.size();
    }

    private static BigInteger sum(int[] places, long b) {
        BigInteger sum = BigInteger.ZERO;
        for (int k = 0; k < places.length; k++) {
            sum = sum.add(BigInteger.valueOf(places[k]).multiply(BigInteger.valueOf(b).pow(k)));
        }
        return sum;
    }

    private static long comesOf(int[] places, long b) {
        return sum(places, b).longValueExact();
    }

    int row(int row, int place) {
        if (!isRow(row) || place < -1 || place >= text.rows.get(row).length) {
            return -1000;
        }
        return place == -1 ? text.rows.get(row).length : text.rows.get(row)[place];
    }

    long comes(int row, int b) {
        return isRow(row) && b >= -999 && b <= 999 ? comesOf(text.rows.get(row), b) : MISSING;
    }

    private static int figures(long number) {
        return Long.toString(number).length();
    }

    long two(int row, int what) {
        if (!isRow(row) || what < 0 || what > 3) {
            return -1;
        }
        int[] places = text.rows.get(row);
        if (Arrays.stream(places).anyMatch(n -> n < 0)) {
            return -2;
        }
        long first = Arrays.stream(places).sum();
        return switch (what) {
            case 0 -> first;
            case 1 -> first + 1;
            case 2 -> comesOf(places, first + 1);
            default -> 1 + figures(first + 1);
        };
    }

    int figure(long v, int b, int what) {
        if (v < 0 || v > 1000000000000000000L || b < 2 || b > 9999 || what < 0 || what > 6) {
            return -1;
        }
        List<Integer> figures = new ArrayList<>();
        long rest = v;
        do {
            figures.add((int) (rest % b));
            rest /= b;
        } while (rest > 0);
        if (figures.size() > 6) {
            return -2;
        }
        return what == 6 ? figures.size() : what < figures.size() ? figures.get(what) : 0;
    }

    int meets(int row, int other) {
        if (!isRow(row) || !isRow(other) || row == other) {
            return -1;
        }
        for (int b = 0; b <= 999; b++) {
            if (comes(row, b) == comes(other, b)) {
                return b;
            }
        }
        return -2;
    }

    int degree(int row) {
        if (!isRow(row)) {
            return -1;
        }
        int last = -2;
        int[] places = text.rows.get(row);
        for (int k = 0; k < places.length; k++) {
            last = places[k] != 0 ? k : last;
        }
        return last;
    }

    int rest(int row, int b) {
        if (!isRow(row) || b < 0 || b > 96) {
            return -1;
        }
        return sum(text.rows.get(row), b).mod(BigInteger.valueOf(text.prime)).intValue();
    }

    int alike(int row, int other) {
        if (!isRow(row) || !isRow(other) || row == other) {
            return -1;
        }
        int many = 0;
        for (int b = 0; b < text.prime; b++) {
            many += rest(row, b) == rest(other, b) ? 1 : 0;
        }
        return many;
    }

    private int[] sumOrProduct(int row, int other, boolean product) {
        int[] whole = new int[11];
        int[] left = text.rows.get(row);
        int[] right = text.rows.get(other);
        for (int i = 0; i < left.length; i++) {
            for (int j = 0; j < right.length; j++) {
                whole[i + j] += product ? left[i] * right[j] : 0;
            }
        }
        for (int i = 0; i < 6 && !product; i++) {
            whole[i] = (i < left.length ? left[i] : 0) + (i < right.length ? right[i] : 0);
        }
        return whole;
    }

    int plus(int row, int other, int place) {
        return isRow(row) && isRow(other) && place >= 0 && place <= 10
                ? sumOrProduct(row, other, false)[place] : -100000;
    }

    int times(int row, int other, int place) {
        return isRow(row) && isRow(other) && place >= 0 && place <= 10
                ? sumOrProduct(row, other, true)[place] : -100000;
    }

    // worlds

    private List<int[]> worlds() {
        List<int[]> worlds = new ArrayList<>();
        int[] now = new int[text.places];
        while (true) {
            worlds.add(now.clone());
            int k = 0;
            while (k < now.length && now[k] == text.greatest) {
                now[k++] = 0;
            }
            if (k == now.length) {
                return worlds;
            }
            now[k]++;
        }
    }

    private static int notZero(int[] places) {
        return (int) Arrays.stream(places).filter(n -> n != 0).count();
    }

    int world(int i, int place) {
        List<int[]> worlds = worlds();
        if (place == -1) {
            return worlds.size();
        }
        return i < 0 || i >= worlds.size() || place < 0 || place >= text.places ? -1 : worlds.get(i)[place];
    }

    int clash(int b, boolean later) {
        if (b < 0 || b > 999) {
            return -1;
        }
        List<int[]> worlds = worlds();
        Map<Long, Integer> seen = new HashMap<>();
        for (int i = 0; i < worlds.size(); i++) {
            Integer first = seen.putIfAbsent(comesOf(worlds.get(i), b), i);
            if (first != null) {
                return later ? i : first;
            }
        }
        return -2;
    }

    int once() {
        int b = 0;
        while (clash(b, false) != -2) {
            b++;
        }
        return b;
    }

    int few(int s) {
        if (s < 0 || s > 4) {
            return -1;
        }
        for (int n = 1; n <= 9; n++) {
            Set<List<Long>> seen = new HashSet<>();
            boolean twice = false;
            for (int[] world : worlds()) {
                if (notZero(world) <= s) {
                    List<Long> answers = new ArrayList<>();
                    for (int b = 1; b <= n; b++) {
                        answers.add(comesOf(world, b));
                    }
                    twice |= !seen.add(answers);
                }
            }
            if (!twice) {
                return n;
            }
        }
        return -2;
    }

    int worldsAt(int b, long v) {
        if (b < -99 || b > 99) {
            return -1;
        }
        return (int) worlds().stream().filter(world -> comesOf(world, b) == v).count();
    }

    private int question(List<Answer> answers) {
        Answer last = answers.isEmpty() ? new Answer(0, 0) : answers.get(answers.size() - 1);
        return worth(text.ask, Map.of("turn", answers.size(), "told", (int) (last.answer % 1000),
                "said", last.said));
    }

    int game(int world, int what) {
        List<int[]> left = worlds();
        if (world < 0 || world >= left.size() || what < 0 || what > 1) {
            return -1;
        }
        int[] right = left.get(world);
        List<Answer> answers = new ArrayList<>();
        int figures = 0;
        while (left.size() > 1 && answers.size() < 50) {
            int said = question(answers);
            long answer = comesOf(right, said);
            answers.add(new Answer(said, answer));
            figures += figures(said);
            left.removeIf(one -> comesOf(one, said) != answer);
        }
        return what == 1 ? figures : left.size() > 1 ? -2 : answers.size();
    }

    // answers told

    int tell(int said, long answer) {
        if (told.size() == 20 || said < -99 || said > 99 || Math.abs(answer) > 1000000000000000L
                || answer == Long.MIN_VALUE) {
            return -1;
        }
        told.add(new Answer(said, answer));
        return told.size() - 1;
    }

    int forget() {
        int many = told.size();
        told.clear();
        return many;
    }

    /** The orders' numbers of those that fit; null if there are no such k, w, s. */
    private List<Integer> fitting(int k, int w, int s) {
        if (k < 0 || k > told.size() || w < 0 || w > 20 || s < 0 || s > 4) {
            return null;
        }
        List<int[]> worlds = worlds();
        List<Integer> fitting = new ArrayList<>();
        for (int i = 0; i < worlds.size(); i++) {
            int off = 0;
            for (Answer answer : told.subList(0, k)) {
                off += comesOf(worlds.get(i), answer.said) != answer.answer ? 1 : 0;
            }
            if (off <= w && notZero(worlds.get(i)) <= s) {
                fitting.add(i);
            }
        }
        return fitting;
    }

    int fits(int k, int w, int s, int i) {
        List<Integer> fitting = fitting(k, w, s);
        if (fitting == null || i < -1 || i >= fitting.size()) {
            return -1;
        }
        return i == -1 ? fitting.size() : fitting.get(i);
    }

    int sure(int k, int w, int s) {
        List<Integer> fitting = fitting(k, w, s);
        if (fitting == null) {
            return -1;
        }
        List<int[]> worlds = worlds();
        int bits = 0;
        for (int place = 0; place < text.places; place++) {
            Set<Integer> numbers = new HashSet<>();
            for (int one : fitting) {
                numbers.add(worlds.get(one)[place]);
            }
            bits |= numbers.size() == 1 ? 1 << place : 0;
        }
        return bits;
    }

    int span(int k, int w, int s, int place) {
        List<Integer> fitting = fitting(k, w, s);
        if (fitting == null || place < 0 || place >= text.places) {
            return -1;
        }
        if (fitting.isEmpty()) {
            return -2;
        }
        List<int[]> worlds = worlds();
        int least = fitting.stream().mapToInt(one -> worlds.get(one)[place]).min().getAsInt();
        int greatest = fitting.stream().mapToInt(one -> worlds.get(one)[place]).max().getAsInt();
        return 10 * least + greatest;
    }

    int liars(int k, int w, int s) {
        List<Integer> fitting = fitting(k, w, s);
        if (fitting == null) {
            return -1;
        }
        List<int[]> worlds = worlds();
        int bits = 0;
        for (int i = 0; i < k && !fitting.isEmpty(); i++) {
            Answer answer = told.get(i);
            boolean never = fitting.stream().allMatch(
                    one -> comesOf(worlds.get(one), answer.said) != answer.answer);
            bits |= never ? 1 << i : 0;
        }
        return bits;
    }

    private static Map<Long, List<int[]>> groups(List<int[]> ones, int b) {
        Map<Long, List<int[]>> groups = new HashMap<>();
        for (int[] one : ones) {
            groups.computeIfAbsent(comesOf(one, b), none -> new ArrayList<>()).add(one);
        }
        return groups;
    }

    int next(int k, int w, int s, int what) {
        List<Integer> fitting = fitting(k, w, s);
        if (fitting == null || what < 0 || what > 1) {
            return -1000;
        }
        if (fitting.isEmpty()) {
            return -2000;
        }
        List<int[]> worlds = worlds();
        List<int[]> ones = fitting.stream().map(worlds::get).toList();
        TreeMap<Integer, Integer> saidByMost = new TreeMap<>();
        for (int said = -9; said <= 9; said++) {
            int most = groups(ones, said).values().stream().mapToInt(List::size).max().getAsInt();
            saidByMost.putIfAbsent(most, said);
        }
        return what == 0 ? saidByMost.firstEntry().getValue() : saidByMost.firstKey();
    }

    private static boolean oneEnough(List<int[]> ones) {
        for (int said = -9; said <= 9; said++) {
            if (groups(ones, said).size() == ones.size()) {
                return true;
            }
        }
        return false;
    }

    int enough(int k, int w, int s) {
        List<Integer> fitting = fitting(k, w, s);
        if (fitting == null) {
            return -1;
        }
        if (fitting.size() > 24) {
            return -2;
        }
        List<int[]> worlds = worlds();
        List<int[]> ones = fitting.stream().map(worlds::get).toList();
        if (ones.size() < 2) {
            return 0;
        }
        if (oneEnough(ones)) {
            return 1;
        }
        for (int said = -9; said <= 9; said++) {
            if (groups(ones, said).values().stream().allMatch(Naive::oneEnough)) {
                return 2;
            }
        }
        return 3;
    }

    int cost(int k) {
        return k < 0 || k > told.size() ? -1 : told.subList(0, k).stream().mapToInt(a -> figures(a.said)).sum();
    }

    boolean hide(int row) {
        if (!isRow(row)) {
            return false;
        }
        hidden = row;
        asked = 0;
        told.clear();
        return true;
    }

    long ask(int b) {
        if (hidden < 0 || told.size() == 20 || b < -99 || b > 99) {
            return MISSING;
        }
        asked++;
        long answer = comesOf(text.rows.get(hidden), b);
        answer += text.liar > 0 && asked % text.liar == 0 ? 1 : 0;
        told.add(new Answer(b, answer));
        return answer;
    }

    int asks() {
        return question(told);
    }

    boolean hold(int slot) {
        if (slot < 0 || slot > 2) {
            return false;
        }
        slots.put(slot, new ArrayList<>(told));
        return true;
    }

    boolean restore(int slot) {
        if (!slots.containsKey(slot)) {
            return false;
        }
        told = new ArrayList<>(slots.get(slot));
        return true;
    }

    // bags

    private List<Integer> sums() {
        List<Integer> sums = new ArrayList<>();
        for (int set = 0; set < 1 << text.bags.size(); set++) {
            int sum = 0;
            for (int bag = 0; bag < text.bags.size(); bag++) {
                sum += (set >> bag & 1) * text.bags.get(bag);
            }
            sums.add(sum);
        }
        return sums;
    }

    int bad(int off, int d) {
        return off < 0 || off > 999999 || d < 1 || d > 99 ? -1
                : (int) sums().stream().filter(sum -> sum * d == off).count();
    }

    int badSet(int off, int d) {
        if (off < 0 || off > 999999 || d < 1 || d > 99) {
            return -1;
        }
        int set = off % d == 0 ? sums().indexOf(off / d) : -1;
        return set < 0 ? -2 : set;
    }

    boolean allTold() {
        List<Integer> sums = sums();
        return new HashSet<>(sums).size() == sums.size();
    }

    int margin() {
        List<Integer> sums = sums();
        int least = Integer.MAX_VALUE;
        for (int i = 0; i < sums.size(); i++) {
            for (int j = 0; j < i; j++) {
                least = Math.min(least, Math.abs(sums.get(i) - sums.get(j)));
            }
        }
        return sums.size() == 1 ? -2 : least;
    }

    // secrets

    private boolean isSet(int set) {
        return set > 0 && set < 1 << text.shares.size() && Integer.bitCount(set) <= 6;
    }

    /** By elimination, as equations. */
    private int[] rowOf(int set) {
        int p = text.prime;
        int n = Integer.bitCount(set);
        List<int[]> lines = new ArrayList<>();
        for (int i = 0; i < text.shares.size(); i++) {
            if ((set >> i & 1) != 0) {
                int[] line = new int[n + 1];
                int power = 1;
                for (int k = 0; k < n; k++) {
                    line[k] = power;
                    power = power * text.shares.get(i)[0] % p;
                }
                line[n] = text.shares.get(i)[1] % p;
                lines.add(line);
            }
        }
        for (int k = 0; k < n; k++) {
            int column = k;
            int[] pivot = lines.stream().skip(k).filter(line -> line[column] != 0).findFirst().get();
            lines.remove(pivot);
            lines.add(k, pivot);
            int turned = BigInteger.valueOf(pivot[k]).modInverse(BigInteger.valueOf(p)).intValue();
            for (int j = 0; j <= n; j++) {
                pivot[j] = pivot[j] * turned % p;
            }
            for (int[] line : lines) {
                int times = line[k];
                for (int j = 0; j <= n && line != pivot; j++) {
                    line[j] = Math.floorMod(line[j] - times * pivot[j], p);
                }
            }
        }
        return lines.stream().mapToInt(line -> line[n]).toArray();
    }

    private int restOf(int[] row, int at) {
        return sum(row, at).mod(BigInteger.valueOf(text.prime)).intValue();
    }

    int secret(int set) {
        return isSet(set) ? rowOf(set)[0] : -1;
    }

    int shared(int set, int at) {
        return isSet(set) && at >= 0 && at <= 96 ? restOf(rowOf(set), at) : -1;
    }

    int shareRow(int set, int place) {
        return isSet(set) && place >= 0 && place < Integer.bitCount(set) ? rowOf(set)[place] : -1;
    }

    int wrong(int n) {
        if (n < 1 || n > 6) {
            return -1;
        }
        int best = -2;
        for (int set = 1; set < 1 << text.shares.size(); set++) {
            if (Integer.bitCount(set) == n) {
                int[] row = rowOf(set);
                int off = 0;
                for (int i = 0; i < text.shares.size(); i++) {
                    int[] share = text.shares.get(i);
                    off |= restOf(row, share[0]) != share[1] % text.prime ? 1 << i : 0;
                }
                best = best == -2 || Integer.bitCount(off) < Integer.bitCount(best) ? off : best;
            }
        }
        return best;
    }

    // pairs

    long pair(int x, int y) {
        if (x < 0 || x > 999999999 || y < 0 || y > 999999999) {
            return -1;
        }
        return pairOf(BigInteger.valueOf(x), BigInteger.valueOf(y)).longValueExact();
    }

    private static BigInteger pairOf(BigInteger x, BigInteger y) {
        BigInteger sum = x.add(y);
        return sum.multiply(sum.add(BigInteger.ONE)).shiftRight(1).add(y);
    }

    long unpair(long v, boolean second) {
        if (v < 0 || v > 1000000000000000000L) {
            return -1;
        }
        BigInteger root = BigInteger.valueOf(v).shiftLeft(3).add(BigInteger.ONE).sqrt();
        long diagonal = root.subtract(BigInteger.ONE).shiftRight(1).longValueExact();
        long y = v - diagonal * (diagonal + 1) / 2;
        return second ? y : diagonal - y;
    }

    long number(int row) {
        if (!isRow(row)) {
            return -1;
        }
        int[] places = text.rows.get(row);
        if (places.length == 0 || places.length > 4 || Arrays.stream(places).anyMatch(n -> n < 0)) {
            return -2;
        }
        BigInteger number = BigInteger.valueOf(places[0]);
        for (int k = 1; k < places.length; k++) {
            number = pairOf(number, BigInteger.valueOf(places[k]));
        }
        return number.longValueExact();
    }

    int count(int what) {
        int[] counts = {text.rows.size(), text.shares.size(), text.bags.size(), text.prime, text.places,
            text.greatest, tape.length(), told.size(), slots.size(), text.liar, hidden, asked};
        return what < 0 || what >= counts.length ? -1 : counts[what];
    }
}
