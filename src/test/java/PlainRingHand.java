import java.util.ArrayList;
import java.util.Arrays;
import java.util.LinkedHashSet;
import java.util.List;
import java.util.Map;
import java.util.NoSuchElementException;
import java.util.function.ToIntFunction;

/**
 * The document once more, as plainly and as slowly as can be, with the whole Java library: nothing is
 * remembered between calls, each question walks anew. RandomRunsTest compares RingHand with it.
 */
final class PlainRingHand {
    static final int NONE = -1;

    /** A rule: what it gives, by its values' names. */
    interface Rule {
        int of(Map<String, Integer> values);
    }

    private static final class Fault extends Exception {
        private static final long serialVersionUID = 1L;
        final int kind;
        final int place;

        Fault(int kind, int place) {
            this.kind = kind;
            this.place = place;
        }
    }

    /** Moves are {from, to, tenths}, changes {tenth, who}. */
    private static final class Told {
        int from = 120;
        List<int[]> moves = new ArrayList<>();
        List<int[]> changes = new ArrayList<>();
        List<Integer> marks = new ArrayList<>();
        List<Rule> hands = new ArrayList<>();
        Rule ring;
        Rule shows;
        int hole = 3;
        int lag = 2;
        int wrist = 20;
        int eye = 0;
        int behind = 0;

        int last() {
            int sum = 0;
            for (int[] move : moves) {
                sum += move[2];
            }
            return sum;
        }

        int place() {
            return moves.isEmpty() ? from : moves.get(moves.size() - 1)[1];
        }
    }

    /** What may be changed, imaged and restored. */
    private static final class State {
        int hole;
        int lag;
        int wrist;
        int eye;
        int hand;
        int behind;
        List<Integer> marks = new ArrayList<>();
        List<State> before = new ArrayList<>();
        List<int[]> film = new ArrayList<>();
        List<Integer> book = new ArrayList<>();

        State copy() {
            State s = settings();
            s.before = new ArrayList<>(before);
            s.film = new ArrayList<>(film);
            s.book = new ArrayList<>(book);
            return s;
        }

        State settings() {
            State s = new State();
            s.hole = hole;
            s.lag = lag;
            s.wrist = wrist;
            s.eye = eye;
            s.hand = hand;
            s.behind = behind;
            s.marks = new ArrayList<>(marks);
            return s;
        }
    }

    private static final class Walk {
        int[] seen;
        int[] ring;
        int[] off;
        int sharp;
        int most;
        int hole;

        boolean isSharp(int t) {
            return Math.abs(off[t]) <= hole;
        }
    }

    private final StringBuilder tape = new StringBuilder();
    private Told told = new Told();
    private State state = new State();
    private State image;
    private List<Integer> row;
    private int fault = NONE;
    private final int[] status = new int[3];

    PlainRingHand() {
        begin();
    }

    private void begin() {
        state = new State();
        state.hole = told.hole;
        state.lag = told.lag;
        state.wrist = told.wrist;
        state.eye = told.eye;
        state.behind = told.behind;
        state.hand = told.hands.isEmpty() ? NONE : 0;
        state.marks = new ArrayList<>(told.marks);
        image = null;
        row = null;
    }

    // ---- the text

    private static final class Parser {
        final String text;
        int pos = 0;
        int start;
        String token;
        final Told told = new Told();
        final List<String> once = new ArrayList<>();
        int nots = 0;

        Parser(String text) throws Fault {
            this.text = text;
            next();
        }

        /** A token is a text; "" at the end, "?" for what is none. */
        void next() {
            while (pos < text.length() && (text.charAt(pos) == 32 || text.charAt(pos) == 10)) {
                pos++;
            }
            start = pos;
            if (pos == text.length()) {
                token = "";
                return;
            }
            String rest = text.substring(pos);
            String found = rest.replaceFirst("(?s)^([a-z]+|[0-9]+|[;()+*/<=-]).*$", "$1");
            boolean is = found.matches("[a-z]+|[0-9]+|[;()+*/<=-]");
            token = is ? found : "?";
            pos += is ? found.length() : 1;
        }

        boolean isNumber() {
            return token.matches("[0-9]+");
        }

        boolean isWord() {
            return token.matches("[a-z]+");
        }

        void fail(int kind) throws Fault {
            throw new Fault(kind, start);
        }

        int number(int low, int high) throws Fault {
            if (!isNumber()) {
                fail(1);
            }
            if (token.length() > 4 || Integer.parseInt(token) < low || Integer.parseInt(token) > high) {
                fail(2);
            }
            return Integer.parseInt(token);
        }

        int take(int low, int high) throws Fault {
            int n = number(low, high);
            next();
            return n;
        }

        void sign(String sign) throws Fault {
            if (!token.equals(sign)) {
                fail(1);
            }
            next();
        }

        Told scene() throws Fault {
            if (token.equals("from")) {
                next();
                told.from = take(12, 480);
                sign(";");
            }
            while (!token.equals("")) {
                line();
                sign(";");
            }
            return told;
        }

        void once() throws Fault {
            if (once.contains(token)) {
                fail(5);
            }
            once.add(token);
            next();
        }

        void line() throws Fault {
            String word = token;
            switch (word) {
                case "go": case "stay": {
                    if (told.moves.size() == 12) {
                        fail(2);
                    }
                    next();
                    int from = told.place();
                    int to = word.equals("go") ? take(12, 480) : from;
                    told.moves.add(new int[] {from, to, take(1, Math.min(99, 600 - told.last()))});
                    return;
                }
                case "him": case "her": {
                    int many = told.changes.size();
                    if (many == 6) {
                        fail(2);
                    }
                    next();
                    int least = many == 0 ? 1 : told.changes.get(many - 1)[0] + 1;
                    told.changes.add(new int[] {take(least, 600), word.equals("him") ? 1 : 0});
                    return;
                }
                case "mark": {
                    if (told.marks.size() == 6) {
                        fail(2);
                    }
                    next();
                    int n = number(12, 480);
                    if (told.marks.contains(n)) {
                        fail(4);
                    }
                    told.marks.add(n);
                    next();
                    return;
                }
                case "behind": once(); told.behind = take(0, 200); return;
                case "hole": once(); told.hole = take(1, 60); return;
                case "lag": once(); told.lag = take(0, 24); return;
                case "wrist": once(); told.wrist = take(1, 90); return;
                case "eye": {
                    once();
                    int sign = 1;
                    if (token.equals("-")) {
                        sign = -1;
                        next();
                    }
                    told.eye = sign * take(0, 30);
                    return;
                }
                case "ring": once(); told.ring = expr(List.of("inch"), 0); return;
                case "shows": once(); told.shows = expr(List.of("off", "hole", "inch"), 0); return;
                case "hand": {
                    if (told.hands.size() == 4) {
                        fail(2);
                    }
                    next();
                    told.hands.add(expr(List.of("seen", "was", "ring", "tenth", "mark"), 0));
                    return;
                }
                default: fail(1);
            }
        }

        static int truth(boolean b) {
            return b ? 1 : 0;
        }

        Rule expr(List<String> names, int within) throws Fault {
            if (within == 6) {
                fail(isNumber() || isWord() || token.equals("(") ? 2 : 1);
            }
            Rule left = and(names, within);
            while (token.equals("or")) {
                next();
                Rule a = left;
                Rule b = and(names, within);
                left = v -> truth(a.of(v) != 0 | b.of(v) != 0);
            }
            return left;
        }

        Rule and(List<String> names, int within) throws Fault {
            Rule left = not(names, within, 0);
            while (token.equals("and")) {
                next();
                Rule a = left;
                Rule b = not(names, within, 0);
                left = v -> truth(a.of(v) != 0 & b.of(v) != 0);
            }
            return left;
        }

        Rule not(List<String> names, int within, int ahead) throws Fault {
            if (token.equals("not")) {
                if (ahead == 6) {
                    fail(2);
                }
                next();
                Rule a = not(names, within, ahead + 1);
                return v -> truth(a.of(v) == 0);
            }
            Rule a = sum(names, within);
            if (token.equals("<")) {
                next();
                Rule b = sum(names, within);
                return v -> truth(a.of(v) < b.of(v));
            }
            if (token.equals("=")) {
                next();
                Rule b = sum(names, within);
                return v -> truth(a.of(v) == b.of(v));
            }
            return a;
        }

        Rule sum(List<String> names, int within) throws Fault {
            Rule left = product(names, within);
            while (token.equals("+") || token.equals("-")) {
                boolean plus = token.equals("+");
                next();
                Rule a = left;
                Rule b = product(names, within);
                left = plus ? v -> a.of(v) + b.of(v) : v -> a.of(v) - b.of(v);
            }
            return left;
        }

        Rule product(List<String> names, int within) throws Fault {
            Rule left = part(names, within);
            while (token.equals("*") || token.equals("/")) {
                boolean times = token.equals("*");
                next();
                Rule a = left;
                Rule b = part(names, within);
                left = times ? v -> a.of(v) * b.of(v) : v -> b.of(v) == 0 ? 0 : a.of(v) / b.of(v);
            }
            return left;
        }

        Rule part(List<String> names, int within) throws Fault {
            if (isNumber()) {
                int n = take(0, 9999);
                return v -> n;
            }
            if (isWord()) {
                if (!names.contains(token)) {
                    fail(3);
                }
                String name = token;
                next();
                return v -> v.get(name);
            }
            sign("(");
            Rule inner = expr(names, within + 1);
            sign(")");
            return inner;
        }
    }

    // ---- the walk

    private int turnBy(int inches) {
        if (told.ring == null) {
            return 4320 / inches;
        }
        return Math.max(0, Math.min(999, told.ring.of(Map.of("inch", inches))));
    }

    private int her(int tenth) {
        int begins = 0;
        for (int[] move : told.moves) {
            if (tenth >= begins && tenth <= begins + move[2]) {
                return move[0] + (move[1] - move[0]) * (tenth - begins) / move[2];
            }
            begins += move[2];
        }
        return told.place();
    }

    private int place(int tenth, int who, int behind, int late) {
        int her = her(Math.max(0, tenth - late));
        return who == 0 ? her : Math.min(480, her + behind);
    }

    private int face(int tenth, int later) {
        int who = 0;
        for (int[] change : told.changes) {
            who = tenth >= change[0] + later ? change[1] : who;
        }
        return who;
    }

    private Walk walk(State s, int late, int shift, int ahead) {
        Walk w = new Walk();
        int n = told.last() + 1;
        w.hole = s.hole;
        w.seen = new int[n];
        w.ring = new int[n];
        w.off = new int[n];
        for (int t = 0; t < n; t++) {
            int from = place(Math.max(0, t - s.lag), face(t, shift), s.behind, late);
            boolean by = s.marks.stream().anyMatch(m -> Math.abs(m - from) <= 6);
            int judged = Math.max(12, Math.min(480, from + from * s.eye / 100));
            w.seen[t] = turnBy(by ? from : judged);
            int right = turnBy(place(t, face(t, 0), s.behind, late));
            if (t == 0) {
                w.ring[0] = right;
            } else {
                int seen = w.seen[t] + ahead * (w.seen[t] - w.seen[t - 1]);
                seen = Math.max(0, Math.min(999, seen));
                int aim = s.hand == NONE ? seen : told.hands.get(s.hand).of(Map.of("seen", seen, "was",
                    w.seen[t - 1], "ring", w.ring[t - 1], "tenth", t, "mark", by ? 1 : 0));
                aim = Math.max(0, Math.min(999, aim));
                int way = aim - w.ring[t - 1];
                w.ring[t] = Math.abs(way) <= s.wrist ? aim : w.ring[t - 1] + Integer.signum(way) * s.wrist;
            }
            w.off[t] = right - w.ring[t];
            w.sharp += Math.abs(w.off[t]) <= s.hole ? 1 : 0;
            w.most = Math.max(w.most, Math.abs(w.off[t]));
        }
        return w;
    }

    private Walk now() {
        return walk(state, 0, 0, 0);
    }

    private boolean shows(Walk w, int t) {
        if (w.isSharp(t)) {
            return false;
        }
        return told.shows == null || told.shows.of(Map.of("off", Math.abs(w.off[t]), "hole", state.hole,
            "inch", place(t, face(t, 0), state.behind, 0))) > 0;
    }

    private void what(int what, int most) {
        if (what < 0 || what > most) {
            throw new NoSuchElementException();
        }
    }

    private void range(int n, int least, int most) {
        if (n < least || n > most) {
            throw new IllegalArgumentException();
        }
    }

    private void isTenth(int t) {
        what(t, told.last());
    }

    // ---- the face

    int feed(int a, int b, int c, int d, int e) {
        if (tape.length() > 680) {
            return NONE;
        }
        for (int n : new int[] {a, b, c, d, e}) {
            tape.append((char) (n >> 24 & 255)).append((char) (n >> 16 & 255));
            tape.append((char) (n >> 8 & 255)).append((char) (n & 255));
        }
        return tape.length();
    }

    int scene(int n) {
        range(n, 0, tape.length());
        String text = tape.substring(0, n);
        tape.setLength(0);
        try {
            told = new Parser(text).scene();
            begin();
            fault = NONE;
            return 0;
        } catch (Fault f) {
            status[0]++;
            fault = f.place;
            return f.kind;
        }
    }

    int fault() {
        return fault;
    }

    int count(int what) {
        what(what, 17);
        return new int[] {told.last(), told.moves.size(), told.changes.size(), told.marks.size(),
            told.hands.size(), state.hand, state.hole, state.lag, state.wrist, state.eye, state.behind,
            state.before.size(), state.film.size(), state.book.size(), tape.length(), status[0], status[1],
            status[2]}[what];
    }

    int mark(int i) {
        what(i, state.marks.size() - 1);
        return state.marks.get(i);
    }

    int inches(int tenth, int who) {
        isTenth(tenth);
        what(who, 1);
        return place(tenth, who, state.behind, 0);
    }

    int turn(int inches) {
        range(inches, 12, 480);
        return turnBy(inches);
    }

    int tenth(int tenth, int what) {
        isTenth(tenth);
        what(what, 5);
        Walk w = now();
        return new int[] {face(tenth, 0), w.seen[tenth], w.ring[tenth], w.off[tenth],
            w.isSharp(tenth) ? 1 : 0, shows(w, tenth) ? 1 : 0}[what];
    }

    private List<int[]> softRuns(Walk w) {
        List<int[]> runs = new ArrayList<>();
        for (int t = 0; t < w.off.length; t++) {
            if (w.isSharp(t)) {
                continue;
            }
            int many = 1;
            while (t + many < w.off.length && !w.isSharp(t + many)) {
                many++;
            }
            runs.add(new int[] {t, many});
            t += many;
        }
        return runs;
    }

    int all(int what) {
        what(what, 6);
        Walk w = now();
        List<int[]> runs = softRuns(w);
        int shown = 0;
        int turned = 0;
        for (int t = 0; t < w.off.length; t++) {
            shown += shows(w, t) ? 1 : 0;
            turned += t == 0 ? 0 : Math.abs(w.ring[t] - w.ring[t - 1]);
        }
        int[] signs = Arrays.stream(w.off).filter(o -> o != 0).map(Integer::signum).toArray();
        int swings = 0;
        for (int i = 1; i < signs.length; i++) {
            swings += signs[i] != signs[i - 1] ? 1 : 0;
        }
        return new int[] {w.sharp, w.most, runs.stream().mapToInt(r -> r[1]).max().orElse(0),
            runs.isEmpty() ? NONE : runs.get(0)[0], swings, shown, turned}[what];
    }

    private boolean act(boolean allowed) {
        if (!allowed) {
            status[1]++;
            return false;
        }
        state.before.add(state.settings());
        if (state.before.size() > 40) {
            state.before.remove(0);
        }
        return true;
    }

    int hole(int hole) {
        int was = state.hole;
        if (!act(hole >= 1 && hole <= 60)) {
            return NONE;
        }
        state.hole = hole;
        return was;
    }

    int lag(int lag) {
        int was = state.lag;
        if (!act(lag >= 0 && lag <= 24)) {
            return NONE;
        }
        state.lag = lag;
        return was;
    }

    int wrist(int wrist) {
        int was = state.wrist;
        if (!act(wrist >= 1 && wrist <= 90)) {
            return NONE;
        }
        state.wrist = wrist;
        return was;
    }

    int eye(int eye) {
        int was = state.eye;
        if (!act(eye >= -30 && eye <= 30)) {
            return -99;
        }
        state.eye = eye;
        return was;
    }

    boolean hand(int hand) {
        if (!act(hand >= -1 && hand < told.hands.size())) {
            return false;
        }
        state.hand = hand;
        return true;
    }

    int behind(int inches) {
        int was = state.behind;
        if (!act(inches >= 0 && inches <= 200)) {
            return NONE;
        }
        state.behind = inches;
        return was;
    }

    int chalk(int i, int inches) {
        int was = mark(i);
        if (!act(inches >= 12 && inches <= 480 && !state.marks.contains(inches))) {
            return NONE;
        }
        state.marks.set(i, inches);
        return was;
    }

    int undo() {
        int many = state.before.size();
        if (many == 0) {
            return NONE;
        }
        State now = state;
        state = now.before.get(many - 1).settings();
        state.before = new ArrayList<>(now.before.subList(0, many - 1));
        state.film = now.film;
        state.book = now.book;
        return many - 1;
    }

    /** The first of some ints by which f is the most. */
    private static int argmax(List<Integer> of, ToIntFunction<Integer> f) {
        int best = of.get(0);
        for (int x : of) {
            best = f.applyAsInt(x) > f.applyAsInt(best) ? x : best;
        }
        return best;
    }

    private static List<Integer> range(int from, int to) {
        List<Integer> all = new ArrayList<>();
        for (int i = from; i <= to; i++) {
            all.add(i);
        }
        return all;
    }

    private static List<Integer> outward(int most) {
        List<Integer> all = range(-most, most);
        all.sort((a, b) -> Math.abs(a) != Math.abs(b) ? Math.abs(a) - Math.abs(b) : a - b);
        return all;
    }

    private Walk byHand(int hand) {
        State s = state.settings();
        s.hand = hand;
        return walk(s, 0, 0, 0);
    }

    int best(int what) {
        what(what, 3);
        if (told.hands.isEmpty()) {
            return NONE;
        }
        List<Integer> hands = range(0, told.hands.size() - 1);
        if (what < 2) {
            int best = argmax(hands, h -> byHand(h).sharp);
            return what == 0 ? best : byHand(best).sharp;
        }
        int safest = argmax(hands, h -> -byHand(h).most);
        return what == 2 ? safest : byHand(safest).most;
    }

    int foretell(int what) {
        what(what, 1);
        int best = argmax(outward(24), f -> walk(state, 0, 0, f).sharp);
        return what == 0 ? best : walk(state, 0, 0, best).sharp;
    }

    private int sharpByHole(int hole) {
        State s = state.settings();
        s.hole = hole;
        return walk(s, 0, 0, 0).sharp;
    }

    int holes(int sharp) {
        range(sharp, 0, 601);
        return range(1, 60).stream().filter(h -> sharpByHole(h) >= sharp).findFirst().orElse(NONE);
    }

    int light(int minutes, int take) {
        range(minutes, 0, 99);
        range(take, 1, 99);
        java.math.BigInteger bestTop = null;
        java.math.BigInteger bestLow = null;
        int best = NONE;
        for (int h = 0; state.hole + h <= 60; h++) {
            int sharp = sharpByHole(state.hole + h);
            if (sharp == 0) {
                continue;
            }
            var low = java.math.BigInteger.valueOf(sharp);
            var top = java.math.BigInteger.valueOf((long) h * minutes).multiply(low)
                .add(java.math.BigInteger.valueOf((long) take * (told.last() + 1)));
            if (best == NONE || top.multiply(bestLow).compareTo(bestTop.multiply(low)) < 0) {
                best = h;
                bestTop = top;
                bestLow = low;
            }
        }
        return best;
    }

    int both() {
        int hole = 0;
        for (int t = 0; t <= told.last(); t++) {
            int apart = Math.abs(turnBy(place(t, 0, state.behind, 0)) - turnBy(place(t, 1, state.behind, 0)));
            while (2 * hole < apart) {
                hole++;
            }
        }
        return hole;
    }

    int marks(int many) {
        range(many, 0, 3);
        LinkedHashSet<Integer> places = new LinkedHashSet<>();
        places.add(told.from);
        for (int[] move : told.moves) {
            places.add(move[0]);
            places.add(move[1]);
        }
        List<List<Integer>> rows = new ArrayList<>();
        rows(new ArrayList<>(places), 0, many, new ArrayList<>(), rows);
        int most = NONE;
        for (List<Integer> r : rows) {
            State s = state.settings();
            s.marks = r;
            int sharp = walk(s, 0, 0, 0).sharp;
            if (sharp > most) {
                most = sharp;
                row = r;
            }
        }
        return most;
    }

    private static void rows(List<Integer> places, int from, int many, List<Integer> begun,
            List<List<Integer>> all) {
        if (many == 0) {
            all.add(new ArrayList<>(begun));
            return;
        }
        for (int i = from; i < places.size(); i++) {
            begun.add(places.get(i));
            rows(places, i + 1, many - 1, begun, all);
            begun.remove(begun.size() - 1);
        }
    }

    int kept(int i) {
        what(i, row == null ? -1 : row.size() - 1);
        return row.get(i);
    }

    int takes(int seed, int n, int late, int good, int what) {
        what(what, 2);
        range(n, 0, 40);
        range(late, 1, 30);
        range(good, 0, 601);
        List<Integer> sharps = new ArrayList<>();
        long s = seed;
        for (int i = 0; i < n; i++) {
            s = (s * 1103515245L + 12345L) & 0xffffffffL;
            int draw = (int) (s / 65536 % 32768 % late);
            sharps.add(walk(state, draw, 0, 0).sharp);
        }
        int sum = sharps.stream().mapToInt(x -> x).sum();
        int fewest = sharps.stream().mapToInt(x -> x).min().orElse(0);
        return new int[] {(int) sharps.stream().filter(x -> x >= good).count(), sum, fewest}[what];
    }

    int see(int tenth, boolean sharp) {
        isTenth(tenth);
        if (state.film.size() == 8) {
            status[2]++;
            return NONE;
        }
        state.film.add(new int[] {tenth, sharp ? 1 : 0});
        return state.film.size();
    }

    private boolean isFilm(Walk w) {
        return state.film.stream().allMatch(f -> (f[1] == 1) == w.isSharp(f[0]));
    }

    int fits(int what) {
        what(what, 1);
        List<Integer> found = new ArrayList<>();
        for (int hand = -1; hand < told.hands.size(); hand++) {
            State s = state.settings();
            s.hand = hand;
            for (int late = 0; late <= 20; late++) {
                if (isFilm(walk(s, late, 0, 0))) {
                    found.add(100 * (hand + 1) + late);
                }
            }
        }
        return what == 0 ? found.size() : found.isEmpty() ? NONE : found.get(0);
    }

    int book(int inches) {
        if (state.book.size() == 16 || inches < 12 || inches > 480) {
            status[2]++;
            return NONE;
        }
        state.book.add(inches);
        return state.book.size();
    }

    private static int lowest(int top, int low, int what) {
        if (low == 0) {
            return what;
        }
        for (int d = low; d > 1; d--) {
            if (top % d == 0 && low % d == 0) {
                return (what == 0 ? top : low) / d;
            }
        }
        return what == 0 ? top : low;
    }

    int next(int inches, int what) {
        what(what, 1);
        return lowest((int) state.book.stream().filter(b -> b <= inches).count(), state.book.size(), what);
    }

    int middle(int what) {
        what(what, 2);
        if (what == 2) {
            return state.book.stream().mapToInt(b -> b).max().orElse(0)
                - state.book.stream().mapToInt(b -> b).min().orElse(0);
        }
        return lowest(state.book.stream().mapToInt(b -> b).sum(), state.book.size(), what);
    }

    void forget() {
        state.film = new ArrayList<>();
        state.book = new ArrayList<>();
    }

    int runs(int i, int what) {
        what(what, 1);
        List<int[]> runs = softRuns(now());
        if (i == NONE) {
            return runs.size();
        }
        what(i, runs.size() - 1);
        return runs.get(i)[what];
    }

    int cure() {
        int[] sharp = new int[3];
        for (int i = 0; i < 3; i++) {
            State s = state.settings();
            s.eye = i == 0 ? 0 : s.eye;
            s.lag = i == 1 ? 0 : s.lag;
            s.wrist = i == 2 ? 90 : s.wrist;
            sharp[i] = walk(s, 0, 0, 0).sharp;
        }
        int best = argmax(range(0, 2), i -> sharp[i]);
        return sharp[best] > now().sharp ? best : NONE;
    }

    int wrists() {
        return argmax(range(1, 90), w -> {
            State s = state.settings();
            s.wrist = w;
            return walk(s, 0, 0, 0).sharp;
        });
    }

    int learn() {
        return argmax(range(0, Math.abs(state.eye)), days -> {
            State s = state.settings();
            s.eye -= Integer.signum(s.eye) * days;
            return walk(s, 0, 0, 0).sharp;
        });
    }

    int shift(int what) {
        what(what, 1);
        int best = argmax(outward(24), by -> walk(state, 0, by, 0).sharp);
        return what == 0 ? best : walk(state, 0, best, 0).sharp;
    }

    int slip(int what) {
        what(what, 1);
        int worst = argmax(range(0, 30), late -> -walk(state, late, 0, 0).sharp);
        return what == 0 ? worst : walk(state, worst, 0, 0).sharp;
    }

    int lags(int what) {
        what(what, 1);
        List<Integer> found = new ArrayList<>(range(0, 24));
        found.removeIf(lag -> {
            State s = state.settings();
            s.lag = lag;
            return !isFilm(walk(s, 0, 0, 0));
        });
        return found.isEmpty() ? NONE : found.get(what == 0 ? 0 : found.size() - 1);
    }

    int depth(int ring, int what) {
        what(what, 1);
        range(ring, 0, 999);
        List<Integer> found = new ArrayList<>(range(12, 480));
        found.removeIf(inches -> Math.abs(turnBy(inches) - ring) > state.hole);
        return found.isEmpty() ? NONE : found.get(what == 0 ? 0 : found.size() - 1);
    }

    int shots(int tenths) {
        range(tenths, 1, 601);
        Walk w = now();
        int found = 0;
        for (int from = 0; from + tenths <= w.off.length; from++) {
            boolean sharp = true;
            for (int t = from; t < from + tenths; t++) {
                sharp &= w.isSharp(t);
            }
            found += sharp ? 1 : 0;
        }
        return found;
    }

    int quickest(int what) {
        what(what, 1);
        int most = 0;
        int first = 0;
        for (int t = told.last(); t > 0; t--) {
            int by = Math.abs(turnBy(place(t, face(t, 0), state.behind, 0))
                - turnBy(place(t - 1, face(t - 1, 0), state.behind, 0)));
            if (by >= most) {
                most = by;
                first = t;
            }
        }
        return what == 0 ? most : first;
    }

    void image() {
        image = state.copy();
    }

    boolean restore() {
        if (image == null) {
            return false;
        }
        state = image.copy();
        return true;
    }
}
