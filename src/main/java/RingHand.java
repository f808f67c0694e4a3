import java.util.NoSuchElementException;

/**
 * A lens whose ring is turned by hand while she walks: the scene is told by a text, the settings can be
 * changed and undone, and every question about the walk is answered by walking it through, tenth by tenth.
 */
public final class RingHand {
    /** There is none. */
    public static final int NONE = -1;

    private static final int TAPE_BYTES = 700;
    private static final int FED_BYTES = 20;
    private static final int NEAREST = 12;
    private static final int FARTHEST = 480;
    private static final int FIRST_INCHES = 120;
    private static final int MOST_TENTHS = 600;
    private static final int MOST_MOVE_TENTHS = 99;
    private static final int MOST_TURN = 999;
    private static final int TURN_INCHES = 4320;
    private static final int CHALK_REACH = 6;
    private static final int MOST_MOVES = 12;
    private static final int MOST_CHANGES = 6;
    private static final int MOST_MARKS = 6;
    private static final int MOST_HANDS = 4;
    private static final int MOST_HOLE = 60;
    private static final int MOST_LAG = 24;
    private static final int MOST_WRIST = 90;
    private static final int MOST_EYE = 30;
    private static final int MOST_BEHIND = 200;
    private static final int MOST_ACTS = 40;
    private static final int MOST_SEEN = 8;
    private static final int MOST_BOOK = 16;
    private static final int MOST_FORETOLD = 24;
    private static final int MOST_SHIFT = 24;
    private static final int MOST_CHALKED = 3;
    private static final int MOST_ROWS = 1000;
    private static final int MOST_MINUTES = 99;
    private static final int MOST_TAKES = 40;
    private static final int MOST_LATE = 30;
    private static final int MOST_FILM_LATE = 20;
    private static final int EYE_REFUSED = -99;

    // Whose face it is.
    private static final int HERS = 0;
    private static final int HIS = 1;

    // The places of the settings in one row, so that an ACT is a place and what stood there.
    private static final int HOLE = 0;
    private static final int LAG = 1;
    private static final int WRIST = 2;
    private static final int EYE = 3;
    private static final int HAND = 4;
    private static final int BEHIND = 5;
    private static final int MARK = 6;
    private static final int SETTINGS = MARK + MOST_MARKS;

    // The rules of a scene.
    private static final int RING_RULE = 0;
    private static final int SHOWS_RULE = 1;
    private static final int HAND_RULE = 2;
    private static final int RULES = HAND_RULE + MOST_HANDS;

    // What a rule may ask for.
    private static final int VALUE_INCH = 0;
    private static final int VALUE_OFF = 1;
    private static final int VALUE_HOLE = 2;
    private static final int VALUE_SEEN = 3;
    private static final int VALUE_WAS = 4;
    private static final int VALUE_RING = 5;
    private static final int VALUE_TENTH = 6;
    private static final int VALUE_MARK = 7;
    private static final int VALUES = 8;

    // A rule's code: a number of the text stands for itself, what is below 0 is one of these.
    private static final int ADD = -1;
    private static final int SUBTRACT = -2;
    private static final int MULTIPLY = -3;
    private static final int DIVIDE = -4;
    private static final int LESS = -5;
    private static final int SAME = -6;
    private static final int NOT = -7;
    private static final int AND = -8;
    private static final int OR = -9;
    private static final int FIRST_VALUE = -10;

    // Six EXPRS within one another leave at most five numbers open in each, and one more.
    private static final int STACK = 64;
    private static final int MOST_WITHIN = 5;
    private static final int MOST_NOTS = 6;
    private static final int MOST_DIGITS = 4;

    // The kinds of TOKENS.
    private static final int END = 0;
    private static final int WORD = 1;
    private static final int NUMBER = 2;
    private static final int SIGN = 3;
    private static final int WRONG = 4;

    // The FAULTS of a text.
    private static final int CANNOT_STAND = 1;
    private static final int TOO_MUCH = 2;
    private static final int NO_VALUE = 3;
    private static final int CHALKED_ALREADY = 4;
    private static final int TOLD_TWICE = 5;

    // STATUS: which calls were refused.
    private static final int REFUSED_TEXTS = 0;
    private static final int REFUSED_ACTS = 1;
    private static final int REFUSED_NOTES = 2;

    private static final Word[] WORDS = Word.values();

    private final int[] tape = new int[TAPE_BYTES];
    private int tapeLength = 0;
    private final Reader reader = new Reader();
    private Scene scene = new Scene();
    private Scene draft = new Scene();
    private final Setup setup = new Setup();
    private final Setup image = new Setup();
    private boolean imaged = false;
    private final Trial trial = new Trial();
    private boolean fresh = false;
    private final Chalk chalk = new Chalk();
    private int faultPlace = NONE;
    private final int[] refused = new int[3];

    public RingHand() {
        scene.clear();
        scene.finish();
        setup.begin(scene);
    }

    public int feed(int a, int b, int c, int d, int e) {
        if (tapeLength + FED_BYTES > TAPE_BYTES) {
            return NONE;
        }
        addBytes(a);
        addBytes(b);
        addBytes(c);
        addBytes(d);
        addBytes(e);
        return tapeLength;
    }

    private void addBytes(int four) {
        for (int shift = 24; shift >= 0 && tapeLength < tape.length; shift -= 8) {
            tape[tapeLength] = (four >>> shift) & 255;
            tapeLength++;
        }
    }

    public int scene(int n) throws IllegalArgumentException {
        if (n < 0 || n > tapeLength) {
            throw new IllegalArgumentException("the tape has not so many bytes");
        }
        boolean told = reader.read(tape, n, draft);
        tapeLength = 0;
        if (!told) {
            refused[REFUSED_TEXTS]++;
            faultPlace = reader.faultPlace;
            return reader.fault;
        }
        Scene before = scene;
        scene = draft;
        draft = before;
        scene.finish();
        setup.begin(scene);
        imaged = false;
        chalk.drop();
        fresh = false;
        faultPlace = NONE;
        return 0;
    }

    public int fault() {
        return faultPlace;
    }

    public int count(int what) throws NoSuchElementException {
        switch (what) {
            case 0: return scene.last;
            case 1: return scene.moveCount;
            case 2: return scene.changeCount;
            case 3: return scene.markCount;
            case 4: return scene.handCount;
            case 5: return setup.row[HAND];
            case 6: return setup.row[HOLE];
            case 7: return setup.row[LAG];
            case 8: return setup.row[WRIST];
            case 9: return setup.row[EYE];
            case 10: return setup.row[BEHIND];
            case 11: return setup.actCount;
            case 12: return setup.seenCount;
            case 13: return setup.bookCount;
            case 14: return tapeLength;
            case 15: return refused[REFUSED_TEXTS];
            case 16: return refused[REFUSED_ACTS];
            case 17: return refused[REFUSED_NOTES];
            default: throw new NoSuchElementException("no such count");
        }
    }

    public int mark(int i) throws NoSuchElementException {
        if (!isMark(i)) {
            throw new NoSuchElementException("no such MARK");
        }
        return setup.row[MARK + i];
    }

    private boolean isMark(int i) {
        return i >= 0 && i < scene.markCount && i < MOST_MARKS;
    }

    public int inches(int tenth, int who) throws NoSuchElementException {
        if (!isTenth(tenth) || who < HERS || who > HIS) {
            throw new NoSuchElementException("no such tenth, or nobody");
        }
        return scene.placeOf(scene.herIn(tenth), who, setup.row[BEHIND]);
    }

    private boolean isTenth(int tenth) {
        return tenth >= 0 && tenth <= scene.last;
    }

    public int turn(int inches) throws IllegalArgumentException {
        if (!isInches(inches)) {
            throw new IllegalArgumentException("not INCHES");
        }
        return scene.turnOf(inches);
    }

    private static boolean isInches(int inches) {
        return inches >= NEAREST && inches <= FARTHEST;
    }

    public int tenth(int tenth, int what) throws NoSuchElementException {
        if (!isTenth(tenth) || what < 0 || what > 5) {
            throw new NoSuchElementException("no such tenth, or nothing such of it");
        }
        walkAsSet();
        switch (what) {
            case 0: return scene.faceIn(tenth, 0);
            case 1: return trial.seen[tenth];
            case 2: return trial.ring[tenth];
            case 3: return trial.off[tenth];
            case 4: return trial.isSharp(tenth) ? 1 : 0;
            default: return trial.isShown(scene, tenth) ? 1 : 0;
        }
    }

    /** Most questions are asked again and again of the same settings, so the walk by them is remembered. */
    private void walkAsSet() {
        if (!fresh) {
            takeSettings();
            trial.walk(scene);
            fresh = true;
        }
    }

    private void takeSettings() {
        trial.begin(setup.row, scene.markCount);
        fresh = false;
    }

    private int sharpAsTried() {
        trial.walk(scene);
        return trial.sharpBy(trial.row[HOLE]);
    }

    public int all(int what) throws NoSuchElementException {
        if (what < 0 || what > 6) {
            throw new NoSuchElementException("nothing such of all TENTHS");
        }
        walkAsSet();
        switch (what) {
            case 0: return trial.sharpBy(setup.row[HOLE]);
            case 1: return trial.mostOff();
            case 2: return trial.longestSoft();
            case 3: return trial.firstSoft();
            case 4: return trial.swings();
            case 5: return trial.shown(scene);
            default: return trial.turned();
        }
    }

    public int hole(int hole) {
        return set(HOLE, hole, hole >= 1 && hole <= MOST_HOLE, NONE);
    }

    public int lag(int lag) {
        return set(LAG, lag, lag >= 0 && lag <= MOST_LAG, NONE);
    }

    public int wrist(int wrist) {
        return set(WRIST, wrist, wrist >= 1 && wrist <= MOST_WRIST, NONE);
    }

    public int eye(int eye) {
        return set(EYE, eye, eye >= -MOST_EYE && eye <= MOST_EYE, EYE_REFUSED);
    }

    public boolean hand(int hand) {
        boolean there = hand == NONE || hand >= 0 && hand < scene.handCount;
        set(HAND, hand, there, NONE);
        return there;
    }

    public int behind(int inches) {
        return set(BEHIND, inches, inches >= 0 && inches <= MOST_BEHIND, NONE);
    }

    public int chalk(int i, int inches) throws NoSuchElementException {
        if (!isMark(i)) {
            throw new NoSuchElementException("no such MARK");
        }
        boolean free = isInches(inches) && !isNearMark(setup.row, scene.markCount, inches, 0);
        return set(MARK + i, inches, free, NONE);
    }

    /** An ACT, if it is allowed: what the setting was; else the answer of a refused call. */
    private int set(int place, int value, boolean allowed, int otherwise) {
        if (!allowed) {
            refused[REFUSED_ACTS]++;
            return otherwise;
        }
        fresh = false;
        return setup.act(place, value);
    }

    public int undo() {
        if (setup.actCount == 0) {
            return NONE;
        }
        fresh = false;
        return setup.takeBack();
    }

    public int best(int what) throws NoSuchElementException {
        if (what < 0 || what > 3) {
            throw new NoSuchElementException("nothing such of the HANDS");
        }
        int best = NONE;
        int mostSharp = NONE;
        int safest = NONE;
        int leastOff = NONE;
        takeSettings();
        trial.look(scene);
        for (int hand = 0; hand < scene.handCount; hand++) {
            trial.row[HAND] = hand;
            trial.follow(scene);
            int sharp = trial.sharpBy(trial.row[HOLE]);
            if (sharp > mostSharp) {
                mostSharp = sharp;
                best = hand;
            }
            int off = trial.mostOff();
            if (safest == NONE || off < leastOff) {
                leastOff = off;
                safest = hand;
            }
        }
        switch (what) {
            case 0: return best;
            case 1: return mostSharp;
            case 2: return safest;
            default: return leastOff;
        }
    }

    public int foretell(int what) throws NoSuchElementException {
        if (what < 0 || what > 1) {
            throw new NoSuchElementException("nothing such of FORETELLING");
        }
        int best = 0;
        int mostSharp = NONE;
        takeSettings();
        trial.look(scene);
        for (int i = 0; i <= 2 * MOST_FORETOLD; i++) {
            int ahead = outward(i);
            trial.ahead = ahead;
            trial.follow(scene);
            int sharp = trial.sharpBy(trial.row[HOLE]);
            if (sharp > mostSharp) {
                mostSharp = sharp;
                best = ahead;
            }
        }
        return what == 0 ? best : mostSharp;
    }

    /** 0, -1, 1, -2, 2 ..: tried so, the first of like ones is the one that is wanted. */
    private static int outward(int i) {
        return (i & 1) == 0 ? i / 2 : -((i + 1) / 2);
    }

    public int holes(int sharp) throws IllegalArgumentException {
        if (sharp < 0 || sharp > MOST_TENTHS + 1) {
            throw new IllegalArgumentException("not so many tenths");
        }
        walkAsSet();
        for (int hole = 1; hole <= MOST_HOLE; hole++) {
            if (trial.sharpBy(hole) >= sharp) {
                return hole;
            }
        }
        return NONE;
    }

    public int light(int minutes, int take) throws IllegalArgumentException {
        if (minutes < 0 || minutes > MOST_MINUTES || take < 1 || take > MOST_MINUTES) {
            throw new IllegalArgumentException("not so many minutes");
        }
        walkAsSet();
        int best = NONE;
        long bestMinutes = 0;
        long bestSharp = 1;
        for (int more = 0; more <= MOST_HOLE - setup.row[HOLE]; more++) {
            long sharp = trial.sharpBy(setup.row[HOLE] + more);
            // All minutes times the SHARP tenths: a whole number, so that fractions are compared as they are.
            long whole = more * minutes * sharp + (long) take * (scene.last + 1);
            if (sharp > 0 && (best == NONE || whole * bestSharp < bestMinutes * sharp)) {
                best = more;
                bestMinutes = whole;
                bestSharp = sharp;
            }
        }
        return best;
    }

    public int both() {
        int most = 0;
        for (int t = 0; t <= scene.last; t++) {
            int her = scene.herIn(t);
            int him = scene.placeOf(her, HIS, setup.row[BEHIND]);
            most = Math.max(most, Math.abs(scene.turnOf(her) - scene.turnOf(him)));
        }
        return (most + 1) / 2;
    }

    public int marks(int many) throws IllegalArgumentException {
        if (many < 0 || many > MOST_CHALKED) {
            throw new IllegalArgumentException("not so many MARKS");
        }
        chalk.findPlaces(scene);
        if (!chalk.pickFirst(many)) {
            return NONE;
        }
        int mostSharp = NONE;
        boolean more = true;
        for (int i = 0; more && i < MOST_ROWS; i++) {
            takeSettings();
            chalk.putPicked(trial, many);
            int sharp = sharpAsTried();
            if (sharp > mostSharp) {
                mostSharp = sharp;
                chalk.keepPicked(many);
            }
            more = chalk.pickNext(many);
        }
        return mostSharp;
    }

    public int kept(int i) throws NoSuchElementException {
        if (i < 0 || i >= chalk.keptCount || i >= MOST_CHALKED) {
            throw new NoSuchElementException("no such MARK is kept");
        }
        return chalk.keptInches[i];
    }

    public int takes(int seed, int n, int late, int good, int what)
            throws NoSuchElementException, IllegalArgumentException {
        if (what < 0 || what > 2) {
            throw new NoSuchElementException("nothing such of TAKES");
        }
        if (n < 0 || n > MOST_TAKES || late < 1 || late > MOST_LATE || good < 0 || good > MOST_TENTHS + 1) {
            throw new IllegalArgumentException("not so many TAKES or tenths");
        }
        int drawn = seed;
        int goodOnes = 0;
        int together = 0;
        int fewest = 0;
        for (int i = 0; i < n; i++) {
            drawn = drawn * 1103515245 + 12345;
            int sharp = sharpLate(((drawn >>> 16) & 0x7fff) % late);
            goodOnes += sharp >= good ? 1 : 0;
            together += sharp;
            fewest = i == 0 ? sharp : Math.min(fewest, sharp);
        }
        switch (what) {
            case 0: return goodOnes;
            case 1: return together;
            default: return fewest;
        }
    }

    private int sharpLate(int late) {
        takeSettings();
        trial.late = late;
        return sharpAsTried();
    }

    public int see(int tenth, boolean sharp) throws NoSuchElementException {
        if (!isTenth(tenth)) {
            throw new NoSuchElementException("no such tenth");
        }
        if (!setup.note(tenth, sharp)) {
            refused[REFUSED_NOTES]++;
            return NONE;
        }
        return setup.seenCount;
    }

    public int fits(int what) throws NoSuchElementException {
        if (what < 0 || what > 1) {
            throw new NoSuchElementException("nothing such of FITS");
        }
        int many = 0;
        int first = NONE;
        for (int hand = NONE; hand < scene.handCount; hand++) {
            for (int late = 0; late <= MOST_FILM_LATE; late++) {
                if (fitsFilm(hand, late)) {
                    many++;
                    first = first == NONE ? 100 * (hand + 1) + late : first;
                }
            }
        }
        return what == 0 ? many : first;
    }

    private boolean fitsFilm(int hand, int late) {
        takeSettings();
        trial.row[HAND] = hand;
        trial.late = late;
        trial.walk(scene);
        return setup.isFilmOf(trial);
    }

    public int book(int inches) {
        if (!isInches(inches) || !setup.write(inches)) {
            refused[REFUSED_NOTES]++;
            return NONE;
        }
        return setup.bookCount;
    }

    public int next(int inches, int what) throws NoSuchElementException {
        if (what < 0 || what > 1) {
            throw new NoSuchElementException("no such part of a fraction");
        }
        return partOf(setup.stoppedWithin(inches), setup.bookCount, what);
    }

    public int middle(int what) throws NoSuchElementException {
        if (what < 0 || what > 2) {
            throw new NoSuchElementException("nothing such of THE MIDDLE");
        }
        if (what == 2) {
            return setup.span();
        }
        return partOf(setup.together(), setup.bookCount, what);
    }

    /** The upper (0) or the lower (1) part of a fraction in lowest terms; it is 0 by 1, if it is of none. */
    private static int partOf(int upper, int lower, int what) {
        int common = commonOf(upper, lower);
        if (lower < 1 || common < 1) {
            return what == 0 ? 0 : 1;
        }
        return what == 0 ? upper / common : lower / common;
    }

    private static int commonOf(int a, int b) {
        int greater = a;
        int smaller = b;
        for (int i = 0; i < 64 && smaller != 0; i++) {
            int left = greater % smaller;
            greater = smaller;
            smaller = left;
        }
        return greater;
    }

    public void forget() {
        setup.seenCount = 0;
        setup.bookCount = 0;
    }

    public int runs(int i, int what) throws NoSuchElementException {
        if (i < NONE || what < 0 || what > 1) {
            throw new NoSuchElementException("no such run, or nothing such of it");
        }
        walkAsSet();
        int found = 0;
        for (int t = 0; t <= scene.last; t++) {
            if (trial.isSharp(t) || t > 0 && !trial.isSharp(t - 1)) {
                continue;
            }
            if (found == i) {
                return what == 0 ? t : trial.softFrom(t);
            }
            found++;
        }
        if (i != NONE) {
            throw new NoSuchElementException("no such run");
        }
        return found;
    }

    public int cure() {
        walkAsSet();
        int mostSharp = trial.sharpBy(setup.row[HOLE]);
        int best = NONE;
        for (int i = 0; i <= 2; i++) {
            takeSettings();
            switch (i) {
                case 0: trial.row[EYE] = 0; break;
                case 1: trial.row[LAG] = 0; break;
                default: trial.row[WRIST] = MOST_WRIST; break;
            }
            int sharp = sharpAsTried();
            if (sharp > mostSharp) {
                mostSharp = sharp;
                best = i;
            }
        }
        return best;
    }

    public int wrists() {
        int best = 1;
        int mostSharp = NONE;
        takeSettings();
        trial.look(scene);
        for (int wrist = 1; wrist <= MOST_WRIST; wrist++) {
            trial.row[WRIST] = wrist;
            trial.follow(scene);
            int sharp = trial.sharpBy(trial.row[HOLE]);
            if (sharp > mostSharp) {
                mostSharp = sharp;
                best = wrist;
            }
        }
        return best;
    }

    public int learn() {
        int eye = setup.row[EYE];
        int best = 0;
        int mostSharp = NONE;
        for (int days = 0; days <= Math.abs(eye); days++) {
            takeSettings();
            trial.row[EYE] = eye < 0 ? eye + days : eye - days;
            int sharp = sharpAsTried();
            if (sharp > mostSharp) {
                mostSharp = sharp;
                best = days;
            }
        }
        return best;
    }

    public int shift(int what) throws NoSuchElementException {
        if (what < 0 || what > 1) {
            throw new NoSuchElementException("nothing such of THE SHIFT");
        }
        int best = 0;
        int mostSharp = NONE;
        for (int i = 0; i <= 2 * MOST_SHIFT; i++) {
            takeSettings();
            trial.shifted = outward(i);
            int sharp = sharpAsTried();
            if (sharp > mostSharp) {
                mostSharp = sharp;
                best = outward(i);
            }
        }
        return what == 0 ? best : mostSharp;
    }

    public int slip(int what) throws NoSuchElementException {
        if (what < 0 || what > 1) {
            throw new NoSuchElementException("nothing such of THE WORST SLIP");
        }
        int worst = 0;
        int fewest = sharpLate(0);
        for (int late = 1; late <= MOST_LATE; late++) {
            int sharp = sharpLate(late);
            if (sharp < fewest) {
                fewest = sharp;
                worst = late;
            }
        }
        return what == 0 ? worst : fewest;
    }

    public int lags(int what) throws NoSuchElementException {
        if (what < 0 || what > 1) {
            throw new NoSuchElementException("nothing such of LAGS");
        }
        int found = NONE;
        for (int lag = 0; lag <= MOST_LAG; lag++) {
            takeSettings();
            trial.row[LAG] = lag;
            trial.walk(scene);
            if (setup.isFilmOf(trial) && (found == NONE || what == 1)) {
                found = lag;
            }
        }
        return found;
    }

    public int depth(int ring, int what) throws NoSuchElementException, IllegalArgumentException {
        if (what < 0 || what > 1) {
            throw new NoSuchElementException("nothing such of DEPTH");
        }
        if (ring < 0 || ring > MOST_TURN) {
            throw new IllegalArgumentException("the ring can't be there");
        }
        int found = NONE;
        for (int inches = NEAREST; inches <= FARTHEST; inches++) {
            boolean within = Math.abs(scene.turnOf(inches) - ring) <= setup.row[HOLE];
            if (within && (found == NONE || what == 1)) {
                found = inches;
            }
        }
        return found;
    }

    public int shots(int tenths) throws IllegalArgumentException {
        if (tenths < 1 || tenths > MOST_TENTHS + 1) {
            throw new IllegalArgumentException("not so many tenths");
        }
        walkAsSet();
        int found = 0;
        int sharp = 0;
        for (int t = 0; t <= scene.last; t++) {
            sharp = trial.isSharp(t) ? sharp + 1 : 0;
            found += sharp >= tenths ? 1 : 0;
        }
        return found;
    }

    public int quickest(int what) throws NoSuchElementException {
        if (what < 0 || what > 1) {
            throw new NoSuchElementException("nothing such of THE QUICKEST");
        }
        takeSettings();
        int most = 0;
        int first = 0;
        for (int t = 1; t <= scene.last; t++) {
            int by = Math.abs(trial.rightIn(scene, t) - trial.rightIn(scene, t - 1));
            // Where TURN never is another, the most is 0, and tenth 1 is the first of which that is so.
            if (by > most || first == 0) {
                most = by;
                first = t;
            }
        }
        return what == 0 ? most : first;
    }

    public void image() {
        image.copyOf(setup);
        imaged = true;
    }

    public boolean restore() {
        if (!imaged) {
            return false;
        }
        setup.copyOf(image);
        fresh = false;
        return true;
    }

    private static int within(int value, int least, int most) {
        return value < least ? least : value > most ? most : value;
    }

    /** Whether one of so many MARKS of a row of settings is no farther than that from some INCHES. */
    private static boolean isNearMark(int[] row, int markCount, int inches, int reach) {
        for (int i = MARK; i < MARK + markCount && i < row.length; i++) {
            if (Math.abs(row[i] - inches) <= reach) {
                return true;
            }
        }
        return false;
    }

    /** The words that a text may hold; OTHER stands for any that means nothing. */
    private enum Word {
        OTHER(""), FROM("from"), GO("go"), STAY("stay"), BEHIND("behind"), HIM("him"), HER("her"),
        MARK("mark"), HOLE("hole"), LAG("lag"), WRIST("wrist"), EYE("eye"), RING("ring"), SHOWS("shows"),
        HAND("hand"), OR("or"), AND("and"), NOT("not"), INCH("inch"), OFF("off"), SEEN("seen"), WAS("was"),
        TENTH("tenth");

        final String letters;

        Word(String letters) {
            this.letters = letters;
        }

        boolean isOn(int[] bytes, int from, int to) {
            if (to - from != letters.length() || from < 0 || to > bytes.length) {
                return false;
            }
            for (int i = 0; i < letters.length(); i++) {
                if (bytes[from + i] != letters.charAt(i)) {
                    return false;
                }
            }
            return true;
        }
    }

    /** The EXPRS of a scene, each as a row of code that is worked through with a stack. */
    private static final class Rules {
        final int[] code = new int[TAPE_BYTES];
        int length = 0;
        final int[] from = new int[RULES];
        final int[] to = new int[RULES];
        final int[] stack = new int[STACK];
        final int[] values = new int[VALUES];

        void clear() {
            length = 0;
            for (int i = 0; i < RULES; i++) {
                from[i] = 0;
                to[i] = 0;
            }
        }

        void open(int rule) {
            if (rule >= 0 && rule < RULES) {
                from[rule] = length;
                to[rule] = length;
            }
        }

        void close(int rule) {
            if (rule >= 0 && rule < RULES) {
                to[rule] = length;
            }
        }

        void add(int step) {
            if (length < code.length) {
                code[length] = step;
                length++;
            }
        }

        boolean has(int rule) {
            return rule >= 0 && rule < RULES && to[rule] > from[rule];
        }

        int worth(int rule) {
            if (!has(rule)) {
                return 0;
            }
            int top = 0;
            for (int i = from[rule]; i < to[rule] && i < code.length; i++) {
                int step = code[i];
                if (step >= 0 || step <= FIRST_VALUE) {
                    if (top < STACK) {
                        stack[top] = step >= 0 ? step : valueBy(step);
                        top++;
                    }
                } else if (step == NOT) {
                    if (top >= 1) {
                        stack[top - 1] = stack[top - 1] == 0 ? 1 : 0;
                    }
                } else if (top >= 2) {
                    top--;
                    stack[top - 1] = join(step, stack[top - 1], stack[top]);
                }
            }
            return top == 1 ? stack[0] : 0;
        }

        private int valueBy(int step) {
            int value = FIRST_VALUE - step;
            return value >= 0 && value < VALUES ? values[value] : 0;
        }

        private static int join(int step, int left, int right) {
            switch (step) {
                case ADD: return left + right;
                case SUBTRACT: return left - right;
                case MULTIPLY: return left * right;
                case DIVIDE: return right == 0 ? 0 : left / right;
                case LESS: return left < right ? 1 : 0;
                case SAME: return left == right ? 1 : 0;
                case AND: return left != 0 && right != 0 ? 1 : 0;
                default: return left != 0 || right != 0 ? 1 : 0;
            }
        }
    }

    /** What a text tells: the walk, whose face it is, and the settings as they are at first. */
    private static final class Scene {
        int begin;
        int moveCount;
        final int[] moveTo = new int[MOST_MOVES];
        final int[] moveTenths = new int[MOST_MOVES];
        int last;
        int changeCount;
        final int[] changeTenth = new int[MOST_CHANGES];
        final int[] changeWho = new int[MOST_CHANGES];
        int markCount;
        int handCount;
        final int[] row = new int[SETTINGS];
        final Rules rules = new Rules();
        final int[] her = new int[MOST_TENTHS + 1];
        final int[] turns = new int[FARTHEST + 1];

        void clear() {
            begin = FIRST_INCHES;
            moveCount = 0;
            last = 0;
            changeCount = 0;
            markCount = 0;
            handCount = 0;
            for (int i = 0; i < SETTINGS; i++) {
                row[i] = 0;
            }
            row[HOLE] = 3;
            row[LAG] = 2;
            row[WRIST] = 20;
            row[HAND] = NONE;
            rules.clear();
        }

        void addMove(int to, int tenths) {
            if (moveCount < MOST_MOVES) {
                moveTo[moveCount] = to;
                moveTenths[moveCount] = tenths;
                moveCount++;
                last += tenths;
            }
        }

        /** Where she is after the MOVES so far. */
        int lastPlace() {
            return moveCount < 1 || moveCount > MOST_MOVES ? begin : moveTo[moveCount - 1];
        }

        void addChange(int tenth, int who) {
            if (changeCount < MOST_CHANGES) {
                changeTenth[changeCount] = tenth;
                changeWho[changeCount] = who;
                changeCount++;
            }
        }

        int lastChange() {
            return changeCount < 1 || changeCount > MOST_CHANGES ? 0 : changeTenth[changeCount - 1];
        }

        void addMark(int inches) {
            if (markCount < MOST_MARKS) {
                row[MARK + markCount] = inches;
                markCount++;
            }
        }

        /** Works out, once a scene, where she is in each tenth and the TURN of all INCHES. */
        void finish() {
            row[HAND] = handCount > 0 ? 0 : NONE;
            her[0] = begin;
            int from = begin;
            int t = 0;
            for (int i = 0; i < moveCount && i < MOST_MOVES; i++) {
                int tenths = moveTenths[i];
                for (int k = 1; k <= tenths && t < MOST_TENTHS; k++) {
                    t++;
                    her[t] = from + (moveTo[i] - from) * k / tenths;
                }
                from = moveTo[i];
            }
            for (int inches = NEAREST; inches <= FARTHEST; inches++) {
                turns[inches] = ruledTurn(inches);
            }
        }

        private int ruledTurn(int inches) {
            if (!rules.has(RING_RULE)) {
                return inches < 1 ? 0 : TURN_INCHES / inches;
            }
            rules.values[VALUE_INCH] = inches;
            return within(rules.worth(RING_RULE), 0, MOST_TURN);
        }

        int turnOf(int inches) {
            return inches < NEAREST || inches > FARTHEST ? 0 : turns[inches];
        }

        /** INCHES of her; ahead of tenth 0 she stands where she begins. */
        int herIn(int tenth) {
            return tenth < 0 || tenth > MOST_TENTHS ? begin : her[tenth];
        }

        int placeOf(int inches, int who, int behind) {
            return who == HERS ? inches : within(inches + behind, NEAREST, FARTHEST);
        }

        /** Whose face it is, had all CHANGES come so many tenths later. */
        int faceIn(int tenth, int later) {
            int who = HERS;
            for (int i = 0; i < changeCount && i < MOST_CHANGES; i++) {
                if (changeTenth[i] + later <= tenth) {
                    who = changeWho[i];
                }
            }
            return who;
        }
    }

    /** Reads a text into a scene, up to its first FAULT. */
    private static final class Reader {
        final int[] kinds = new int[TAPE_BYTES + 1];
        final int[] meanings = new int[TAPE_BYTES + 1];
        final int[] places = new int[TAPE_BYTES + 1];
        int tokens = 0;
        int at = 0;
        final boolean[] told = new boolean[SETTINGS];
        int fault = 0;
        int faultPlace = NONE;

        boolean read(int[] bytes, int length, Scene scene) {
            split(bytes, length);
            at = 0;
            fault = 0;
            faultPlace = NONE;
            for (int i = 0; i < SETTINGS; i++) {
                told[i] = false;
            }
            scene.clear();
            if (isWord(Word.FROM) && !readFrom(scene)) {
                return false;
            }
            for (int i = 0; i < tokens && !isKind(END); i++) {
                if (!readLine(scene)) {
                    return false;
                }
            }
            return true;
        }

        /** Splits the text into TOKENS; behind the last one stands an END at the text's length. */
        private void split(int[] bytes, int length) {
            tokens = 0;
            int end = Math.min(length, bytes.length);
            int i = 0;
            for (int guard = 0; guard <= TAPE_BYTES && i < end; guard++) {
                int from = i;
                int sign = bytes[i];
                if (isLetter(sign)) {
                    i = endOfLetters(bytes, from, end);
                    addToken(WORD, wordOn(bytes, from, i), from);
                } else if (isDigit(sign)) {
                    i = endOfDigits(bytes, from, end);
                    addToken(NUMBER, numberOn(bytes, from, i), from);
                } else {
                    i++;
                    if (sign != ' ' && sign != '\n') {
                        addToken(isSignByte(sign) ? SIGN : WRONG, sign, from);
                    }
                }
            }
            addToken(END, 0, end);
        }

        private void addToken(int kind, int meaning, int place) {
            if (tokens < kinds.length) {
                kinds[tokens] = kind;
                meanings[tokens] = meaning;
                places[tokens] = place;
                tokens++;
            }
        }

        private static boolean isLetter(int sign) {
            return sign >= 'a' && sign <= 'z';
        }

        private static boolean isDigit(int sign) {
            return sign >= '0' && sign <= '9';
        }

        private static boolean isSignByte(int sign) {
            switch (sign) {
                case ';': case '(': case ')': case '+': case '-': case '*': case '/': case '<': case '=':
                    return true;
                default:
                    return false;
            }
        }

        private static int endOfLetters(int[] bytes, int from, int end) {
            for (int i = from; i < end && i < bytes.length; i++) {
                if (!isLetter(bytes[i])) {
                    return i;
                }
            }
            return end;
        }

        private static int endOfDigits(int[] bytes, int from, int end) {
            for (int i = from; i < end && i < bytes.length; i++) {
                if (!isDigit(bytes[i])) {
                    return i;
                }
            }
            return end;
        }

        private static int wordOn(int[] bytes, int from, int to) {
            for (int i = 1; i < WORDS.length; i++) {
                if (WORDS[i].isOn(bytes, from, to)) {
                    return i;
                }
            }
            return 0;
        }

        /** A NUMBER; NONE, if it has too many digits, which is below all that is allowed anywhere. */
        private static int numberOn(int[] bytes, int from, int to) {
            if (to - from > MOST_DIGITS) {
                return NONE;
            }
            int number = 0;
            for (int i = from; i < to && i < bytes.length; i++) {
                number = number * 10 + bytes[i] - '0';
            }
            return number;
        }

        private boolean isKind(int kind) {
            return at < tokens && kinds[at] == kind;
        }

        private boolean isSign(char sign) {
            return isKind(SIGN) && meanings[at] == sign;
        }

        private Word word() {
            if (at >= tokens || kinds[at] != WORD || meanings[at] < 0 || meanings[at] >= WORDS.length) {
                return Word.OTHER;
            }
            return WORDS[meanings[at]];
        }

        private boolean isWord(Word word) {
            return word() == word;
        }

        private void advance() {
            if (at < tokens - 1) {
                at++;
            }
        }

        private boolean refuse(int as) {
            fault = as;
            faultPlace = at < tokens ? places[at] : 0;
            return false;
        }

        private boolean isNumber(int least, int most) {
            if (!isKind(NUMBER)) {
                return refuse(CANNOT_STAND);
            }
            return meanings[at] >= least && meanings[at] <= most || refuse(TOO_MUCH);
        }

        private int takeNumber() {
            int number = at < tokens ? meanings[at] : 0;
            advance();
            return number;
        }

        private boolean readEnd() {
            if (!isSign(';')) {
                return refuse(CANNOT_STAND);
            }
            advance();
            return true;
        }

        private boolean readFrom(Scene scene) {
            advance();
            if (!isNumber(NEAREST, FARTHEST)) {
                return false;
            }
            scene.begin = takeNumber();
            return readEnd();
        }

        private boolean readLine(Scene scene) {
            switch (word()) {
                case GO: return readGo(scene);
                case STAY: return readStay(scene);
                case HIM: return readChange(scene, HIS);
                case HER: return readChange(scene, HERS);
                case MARK: return readMark(scene);
                case BEHIND: return readSetting(scene, RingHand.BEHIND, 0, MOST_BEHIND);
                case HOLE: return readSetting(scene, RingHand.HOLE, 1, MOST_HOLE);
                case LAG: return readSetting(scene, RingHand.LAG, 0, MOST_LAG);
                case WRIST: return readSetting(scene, RingHand.WRIST, 1, MOST_WRIST);
                case EYE: return readEye(scene);
                case RING: return readRule(scene, RING_RULE);
                case SHOWS: return readRule(scene, SHOWS_RULE);
                case HAND: return readRule(scene, HAND_RULE + scene.handCount);
                default: return refuse(CANNOT_STAND);
            }
        }

        private boolean readGo(Scene scene) {
            if (scene.moveCount >= MOST_MOVES) {
                return refuse(TOO_MUCH);
            }
            advance();
            if (!isNumber(NEAREST, FARTHEST)) {
                return false;
            }
            return readTenths(scene, takeNumber());
        }

        private boolean readStay(Scene scene) {
            if (scene.moveCount >= MOST_MOVES) {
                return refuse(TOO_MUCH);
            }
            advance();
            return readTenths(scene, scene.lastPlace());
        }

        private boolean readTenths(Scene scene, int to) {
            if (!isNumber(1, Math.min(MOST_MOVE_TENTHS, MOST_TENTHS - scene.last))) {
                return false;
            }
            scene.addMove(to, takeNumber());
            return readEnd();
        }

        private boolean readChange(Scene scene, int who) {
            if (scene.changeCount >= MOST_CHANGES) {
                return refuse(TOO_MUCH);
            }
            advance();
            if (!isNumber(scene.lastChange() + 1, MOST_TENTHS)) {
                return false;
            }
            scene.addChange(takeNumber(), who);
            return readEnd();
        }

        private boolean readMark(Scene scene) {
            if (scene.markCount >= MOST_MARKS) {
                return refuse(TOO_MUCH);
            }
            advance();
            if (!isNumber(NEAREST, FARTHEST)) {
                return false;
            }
            if (at < tokens && isNearMark(scene.row, scene.markCount, meanings[at], 0)) {
                return refuse(CHALKED_ALREADY);
            }
            scene.addMark(takeNumber());
            return readEnd();
        }

        private boolean readSetting(Scene scene, int setting, int least, int most) {
            if (!isFirst(setting)) {
                return false;
            }
            advance();
            if (!isNumber(least, most)) {
                return false;
            }
            scene.row[setting] = takeNumber();
            return readEnd();
        }

        private boolean isFirst(int setting) {
            if (setting < 0 || setting >= SETTINGS || told[setting]) {
                return refuse(TOLD_TWICE);
            }
            told[setting] = true;
            return true;
        }

        private boolean readEye(Scene scene) {
            if (!isFirst(RingHand.EYE)) {
                return false;
            }
            advance();
            boolean below = isSign('-');
            if (below) {
                advance();
            }
            if (!isNumber(0, MOST_EYE)) {
                return false;
            }
            int eye = takeNumber();
            scene.row[RingHand.EYE] = below ? -eye : eye;
            return readEnd();
        }

        private boolean readRule(Scene scene, int rule) {
            if (rule >= RULES) {
                return refuse(TOO_MUCH);
            }
            if (scene.rules.has(rule)) {
                return refuse(TOLD_TWICE);
            }
            advance();
            scene.rules.open(rule);
            if (!readExpr(scene.rules, rule, 0)) {
                return false;
            }
            scene.rules.close(rule);
            scene.handCount += rule >= HAND_RULE ? 1 : 0;
            return readEnd();
        }

        private boolean readExpr(Rules rules, int rule, int depth) {
            if (depth > MOST_WITHIN) {
                boolean begins = isKind(NUMBER) || isKind(WORD) || isSign('(');
                return refuse(begins ? TOO_MUCH : CANNOT_STAND);
            }
            if (!readAnd(rules, rule, depth)) {
                return false;
            }
            for (int i = 0; i < tokens && isWord(Word.OR); i++) {
                advance();
                if (!readAnd(rules, rule, depth)) {
                    return false;
                }
                rules.add(RingHand.OR);
            }
            return true;
        }

        private boolean readAnd(Rules rules, int rule, int depth) {
            if (!readNot(rules, rule, depth)) {
                return false;
            }
            for (int i = 0; i < tokens && isWord(Word.AND); i++) {
                advance();
                if (!readNot(rules, rule, depth)) {
                    return false;
                }
                rules.add(RingHand.AND);
            }
            return true;
        }

        private boolean readNot(Rules rules, int rule, int depth) {
            int nots = 0;
            for (int i = 0; i < tokens && isWord(Word.NOT); i++) {
                if (nots >= MOST_NOTS) {
                    return refuse(TOO_MUCH);
                }
                nots++;
                advance();
            }
            if (!readTest(rules, rule, depth)) {
                return false;
            }
            for (int i = 0; i < nots; i++) {
                rules.add(RingHand.NOT);
            }
            return true;
        }

        private boolean readTest(Rules rules, int rule, int depth) {
            if (!readSum(rules, rule, depth)) {
                return false;
            }
            if (!isSign('<') && !isSign('=')) {
                return true;
            }
            int step = isSign('<') ? LESS : SAME;
            advance();
            if (!readSum(rules, rule, depth)) {
                return false;
            }
            rules.add(step);
            return true;
        }

        private boolean readSum(Rules rules, int rule, int depth) {
            if (!readProduct(rules, rule, depth)) {
                return false;
            }
            for (int i = 0; i < tokens && (isSign('+') || isSign('-')); i++) {
                int step = isSign('+') ? ADD : SUBTRACT;
                advance();
                if (!readProduct(rules, rule, depth)) {
                    return false;
                }
                rules.add(step);
            }
            return true;
        }

        private boolean readProduct(Rules rules, int rule, int depth) {
            if (!readPart(rules, rule, depth)) {
                return false;
            }
            for (int i = 0; i < tokens && (isSign('*') || isSign('/')); i++) {
                int step = isSign('*') ? MULTIPLY : DIVIDE;
                advance();
                if (!readPart(rules, rule, depth)) {
                    return false;
                }
                rules.add(step);
            }
            return true;
        }

        private boolean readPart(Rules rules, int rule, int depth) {
            if (isKind(NUMBER)) {
                if (!isNumber(0, 9999)) {
                    return false;
                }
                rules.add(takeNumber());
                return true;
            }
            if (isKind(WORD)) {
                int value = valueOf(word(), rule);
                if (value == NONE) {
                    return refuse(NO_VALUE);
                }
                rules.add(FIRST_VALUE - value);
                advance();
                return true;
            }
            return readInner(rules, rule, depth);
        }

        private boolean readInner(Rules rules, int rule, int depth) {
            if (!isSign('(')) {
                return refuse(CANNOT_STAND);
            }
            advance();
            if (!readExpr(rules, rule, depth + 1)) {
                return false;
            }
            if (!isSign(')')) {
                return refuse(CANNOT_STAND);
            }
            advance();
            return true;
        }

        private static int valueOf(Word word, int rule) {
            if (rule == RING_RULE) {
                return word == Word.INCH ? VALUE_INCH : NONE;
            }
            if (rule == SHOWS_RULE) {
                switch (word) {
                    case OFF: return VALUE_OFF;
                    case HOLE: return VALUE_HOLE;
                    case INCH: return VALUE_INCH;
                    default: return NONE;
                }
            }
            switch (word) {
                case SEEN: return VALUE_SEEN;
                case WAS: return VALUE_WAS;
                case RING: return VALUE_RING;
                case TENTH: return VALUE_TENTH;
                case MARK: return VALUE_MARK;
                default: return NONE;
            }
        }
    }

    /** The settings as they are now, the ACTS that made them so, what was SEEN, and the BOOK. */
    private static final class Setup {
        final int[] row = new int[SETTINGS];
        final int[] actPlaces = new int[MOST_ACTS];
        final int[] actBefore = new int[MOST_ACTS];
        int actCount = 0;
        final int[] seenTenths = new int[MOST_SEEN];
        final int[] seenSharp = new int[MOST_SEEN];
        int seenCount = 0;
        final int[] stops = new int[MOST_BOOK];
        int bookCount = 0;

        void begin(Scene scene) {
            System.arraycopy(scene.row, 0, row, 0, SETTINGS);
            actCount = 0;
            seenCount = 0;
            bookCount = 0;
        }

        void copyOf(Setup other) {
            System.arraycopy(other.row, 0, row, 0, SETTINGS);
            System.arraycopy(other.actPlaces, 0, actPlaces, 0, MOST_ACTS);
            System.arraycopy(other.actBefore, 0, actBefore, 0, MOST_ACTS);
            actCount = other.actCount;
            System.arraycopy(other.seenTenths, 0, seenTenths, 0, MOST_SEEN);
            System.arraycopy(other.seenSharp, 0, seenSharp, 0, MOST_SEEN);
            seenCount = other.seenCount;
            System.arraycopy(other.stops, 0, stops, 0, MOST_BOOK);
            bookCount = other.bookCount;
        }

        /** Sets what stands in a place of the row, keeps that as an ACT, and answers what stood there. */
        int act(int place, int value) {
            if (place < 0 || place >= SETTINGS) {
                return NONE;
            }
            if (actCount >= MOST_ACTS) {
                dropEarliest();
            }
            int before = row[place];
            actPlaces[actCount] = place;
            actBefore[actCount] = before;
            actCount++;
            row[place] = value;
            return before;
        }

        private void dropEarliest() {
            for (int i = 1; i < MOST_ACTS; i++) {
                actPlaces[i - 1] = actPlaces[i];
                actBefore[i - 1] = actBefore[i];
            }
            actCount = MOST_ACTS - 1;
        }

        int takeBack() {
            if (actCount < 1 || actCount > MOST_ACTS) {
                return NONE;
            }
            actCount--;
            int place = actPlaces[actCount];
            if (place >= 0 && place < SETTINGS) {
                row[place] = actBefore[actCount];
            }
            return actCount;
        }

        boolean note(int tenth, boolean sharp) {
            if (seenCount >= MOST_SEEN) {
                return false;
            }
            seenTenths[seenCount] = tenth;
            seenSharp[seenCount] = sharp ? 1 : 0;
            seenCount++;
            return true;
        }

        boolean isFilmOf(Trial trial) {
            for (int i = 0; i < seenCount && i < MOST_SEEN; i++) {
                if (trial.isSharp(seenTenths[i]) != (seenSharp[i] == 1)) {
                    return false;
                }
            }
            return true;
        }

        boolean write(int inches) {
            if (bookCount >= MOST_BOOK) {
                return false;
            }
            stops[bookCount] = inches;
            bookCount++;
            return true;
        }

        int stoppedWithin(int inches) {
            int found = 0;
            for (int i = 0; i < bookCount && i < MOST_BOOK; i++) {
                found += stops[i] <= inches ? 1 : 0;
            }
            return found;
        }

        int together() {
            int sum = 0;
            for (int i = 0; i < bookCount && i < MOST_BOOK; i++) {
                sum += stops[i];
            }
            return sum;
        }

        int span() {
            if (bookCount < 1) {
                return 0;
            }
            int most = stops[0];
            int fewest = stops[0];
            for (int i = 1; i < bookCount && i < MOST_BOOK; i++) {
                most = Math.max(most, stops[i]);
                fewest = Math.min(fewest, stops[i]);
            }
            return most - fewest;
        }
    }

    /** The walk by some settings: what he sees in each tenth, where the ring is, and how far off. */
    private static final class Trial {
        final int[] row = new int[SETTINGS];
        int markCount = 0;
        int late = 0;
        int shifted = 0;
        int ahead = 0;
        int last = 0;
        final int[] seen = new int[MOST_TENTHS + 1];
        final boolean[] chalked = new boolean[MOST_TENTHS + 1];
        final int[] ring = new int[MOST_TENTHS + 1];
        final int[] off = new int[MOST_TENTHS + 1];

        void begin(int[] settings, int marks) {
            System.arraycopy(settings, 0, row, 0, Math.min(SETTINGS, settings.length));
            markCount = marks;
            late = 0;
            shifted = 0;
            ahead = 0;
        }

        void walk(Scene scene) {
            look(scene);
            follow(scene);
        }

        /** What he sees: it hangs neither on the hand nor on the wrist, so it may be done once for many. */
        void look(Scene scene) {
            last = Math.min(scene.last, MOST_TENTHS);
            for (int t = 0; t <= last; t++) {
                int inches = placeIn(scene, t - row[LAG], scene.faceIn(t, shifted));
                chalked[t] = isNearMark(row, markCount, inches, CHALK_REACH);
                seen[t] = scene.turnOf(chalked[t] ? inches : judged(inches));
            }
        }

        void follow(Scene scene) {
            // CHANGES that come earlier for the hand don't move where the ring is at first.
            ring[0] = rightIn(scene, 0);
            off[0] = 0;
            for (int t = 1; t <= last; t++) {
                int way = aim(scene, t) - ring[t - 1];
                ring[t] = ring[t - 1] + within(way, -row[WRIST], row[WRIST]);
                off[t] = rightIn(scene, t) - ring[t];
            }
        }

        /** Where the hand wants the ring in a later tenth than 0. */
        private int aim(Scene scene, int t) {
            if (t < 1 || t > MOST_TENTHS) {
                return 0;
            }
            int was = seen[t - 1];
            int told = within(seen[t] + ahead * (seen[t] - was), 0, MOST_TURN);
            if (row[HAND] == NONE) {
                return told;
            }
            int[] values = scene.rules.values;
            values[VALUE_SEEN] = told;
            values[VALUE_WAS] = was;
            values[VALUE_RING] = ring[t - 1];
            values[VALUE_TENTH] = t;
            values[VALUE_MARK] = chalked[t] ? 1 : 0;
            return within(scene.rules.worth(HAND_RULE + row[HAND]), 0, MOST_TURN);
        }

        private int placeIn(Scene scene, int tenth, int who) {
            return scene.placeOf(scene.herIn(Math.max(0, tenth) - late), who, row[BEHIND]);
        }

        /** TURN of the face that it is, where that really is. */
        int rightIn(Scene scene, int tenth) {
            return scene.turnOf(placeIn(scene, tenth, scene.faceIn(tenth, 0)));
        }

        private int judged(int inches) {
            return within(inches + inches * row[EYE] / 100, NEAREST, FARTHEST);
        }

        boolean isSharp(int tenth) {
            return tenth >= 0 && tenth <= MOST_TENTHS && Math.abs(off[tenth]) <= row[HOLE];
        }

        int sharpBy(int hole) {
            int found = 0;
            for (int t = 0; t <= last; t++) {
                found += Math.abs(off[t]) <= hole ? 1 : 0;
            }
            return found;
        }

        int mostOff() {
            int most = 0;
            for (int t = 0; t <= last; t++) {
                most = Math.max(most, Math.abs(off[t]));
            }
            return most;
        }

        int longestSoft() {
            int most = 0;
            int soft = 0;
            for (int t = 0; t <= last; t++) {
                soft = isSharp(t) ? 0 : soft + 1;
                most = Math.max(most, soft);
            }
            return most;
        }

        int firstSoft() {
            for (int t = 0; t <= last; t++) {
                if (!isSharp(t)) {
                    return t;
                }
            }
            return NONE;
        }

        /** How many tenths from this one on are SOFT, side by side. */
        int softFrom(int tenth) {
            int many = 0;
            for (int t = tenth; t <= last && !isSharp(t); t++) {
                many++;
            }
            return many;
        }

        int swings() {
            int found = 0;
            int side = 0;
            for (int t = 0; t <= last; t++) {
                found += off[t] > 0 && side < 0 || off[t] < 0 && side > 0 ? 1 : 0;
                side = off[t] == 0 ? side : off[t];
            }
            return found;
        }

        boolean isShown(Scene scene, int tenth) {
            if (tenth < 0 || tenth > MOST_TENTHS || isSharp(tenth)) {
                return false;
            }
            if (!scene.rules.has(SHOWS_RULE)) {
                return true;
            }
            int[] values = scene.rules.values;
            values[VALUE_OFF] = Math.abs(off[tenth]);
            values[VALUE_HOLE] = row[HOLE];
            values[VALUE_INCH] = placeIn(scene, tenth, scene.faceIn(tenth, 0));
            return scene.rules.worth(SHOWS_RULE) > 0;
        }

        int shown(Scene scene) {
            int found = 0;
            for (int t = 0; t <= last; t++) {
                found += isShown(scene, t) ? 1 : 0;
            }
            return found;
        }

        int turned() {
            int sum = 0;
            for (int t = 1; t <= last; t++) {
                sum += Math.abs(ring[t] - ring[t - 1]);
            }
            return sum;
        }
    }

    /** Where chalk might be put: the places of the walk, a row of them that is tried, and the one kept. */
    private static final class Chalk {
        final int[] places = new int[MOST_MOVES + 1];
        int placeCount = 0;
        final int[] picked = new int[MOST_CHALKED];
        final int[] keptInches = new int[MOST_CHALKED];
        int keptCount = NONE;

        void drop() {
            keptCount = NONE;
        }

        void findPlaces(Scene scene) {
            placeCount = 0;
            addPlace(scene.begin);
            for (int i = 0; i < scene.moveCount && i < MOST_MOVES; i++) {
                addPlace(scene.moveTo[i]);
            }
        }

        private void addPlace(int inches) {
            for (int i = 0; i < placeCount && i < places.length; i++) {
                if (places[i] == inches) {
                    return;
                }
            }
            if (placeCount < places.length) {
                places[placeCount] = inches;
                placeCount++;
            }
        }

        boolean pickFirst(int many) {
            if (many > placeCount) {
                return false;
            }
            for (int i = 0; i < many && i < MOST_CHALKED; i++) {
                picked[i] = i;
            }
            return true;
        }

        boolean pickNext(int many) {
            for (int i = Math.min(many, MOST_CHALKED) - 1; i >= 0; i--) {
                if (picked[i] < placeCount - many + i) {
                    int place = picked[i] + 1;
                    for (int k = i; k < many && k < MOST_CHALKED; k++) {
                        picked[k] = place;
                        place++;
                    }
                    return true;
                }
            }
            return false;
        }

        private int pickedInches(int i) {
            int place = i >= 0 && i < MOST_CHALKED ? picked[i] : 0;
            return place >= 0 && place < places.length ? places[place] : NEAREST;
        }

        void putPicked(Trial trial, int many) {
            trial.markCount = many;
            for (int i = 0; i < many && i < MOST_MARKS; i++) {
                trial.row[MARK + i] = pickedInches(i);
            }
        }

        void keepPicked(int many) {
            keptCount = many;
            for (int i = 0; i < many && i < MOST_CHALKED; i++) {
                keptInches[i] = pickedInches(i);
            }
        }
    }
}
