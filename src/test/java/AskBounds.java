/** The bounds of what may be asked of hands, holes, chalk, takes (Terms, ==== 3 to 5; promises 19 to 26, 33 to 42). */
final class AskBounds extends Checks {
    // OFF is 0 in tenth 0, and in tenth 1 what the hand makes of it.
    private static final String TWO_TENTHS = "stay 1;ring 500;wrist 90;";

    private static final int[] NO_WHAT = {-1, LEAST_INT, GREATEST_INT};

    interface Ask {
        int of(int what);
    }

    /** What may be asked for is 0 to most, and nothing else. */
    private static void whats(int most, Ask ask) {
        for (int what = 0; what <= most; what++) {
            ask.of(what);
        }
        none(() -> ask.of(most + 1));
        for (int what : NO_WHAT) {
            none(() -> ask.of(what));
        }
    }

    /** An argument may be least to most, and nothing else. */
    private static void arguments(int least, int most, Ask ask) {
        ask.of(least);
        ask.of(most);
        for (int n : new int[] {least - 1, most + 1, LEAST_INT, GREATEST_INT}) {
            bad(() -> ask.of(n));
        }
    }

    // ---- promise 19

    private static void best(RingHand x, int best, int sharp, int safest, int off) {
        due(x.best(0), best);
        due(x.best(1), sharp);
        due(x.best(2), safest);
        due(x.best(3), off);
    }

    @Sentence(promise = 19,
        says = "THE BEST HAND (what 0; NONE: there are none), how many are SHARP by it (1; NONE); THE SAFEST (2; "
            + "NONE), the most that OFF is by it (3; NONE). NoSuchElementException: another what.")
    static void bestWithoutHands() {
        best(new RingHand(), -1, -1, -1, -1);
        best(told("stay 5;"), -1, -1, -1, -1);
        whats(3, what -> new RingHand().best(what));
        whats(3, what -> told("hand seen;").best(what));
        best(told("hand 999;"), 0, 1, 0, 0);
        best(told(TWO_TENTHS + "hand 590;"), 0, 1, 0, 90);
    }

    @Sentence(promise = 19, says = "THE BEST HAND: that by which most tenths are SHARP (of like ones the first)")
    static void bestOfLikeHands() {
        best(told(TWO_TENTHS + "hand 510;hand 500;hand 500;hand 500;"), 1, 2, 1, 0);
        best(told(TWO_TENTHS + "hand 510;hand 520;hand 530;hand 500;"), 3, 2, 3, 0);
        best(told(TWO_TENTHS + "hand 500;hand 500;"), 0, 2, 0, 0);
        best(told(TWO_TENTHS + "hand 503;hand 500;hand 497;"), 0, 2, 1, 0);
        // None is in force, but they are asked for all the same.
        RingHand x = told(TWO_TENTHS + "hand 510;hand 500;");
        x.hand(-1);
        best(x, 1, 2, 1, 0);
        due(x.count(5), -1);
    }

    @Sentence(promise = 19, says = "THE SAFEST: that by which OFF, without sign, is least at the most.")
    static void safest() {
        best(told(TWO_TENTHS + "hand 510;hand 491;hand 509;hand 511;"), 0, 1, 1, 9);
        best(told(TWO_TENTHS + "hand 511;hand 512;hand 510;hand 489;"), 0, 1, 2, 10);
        best(told(TWO_TENTHS + "hand 513;hand 512;hand 511;hand 490;"), 0, 1, 3, 10);
        // SHARP more often, but once far off.
        best(told("stay 5;ring 500;wrist 90;hand 510;hand 500+90*(tenth=5);"), 1, 5, 0, 10);
    }

    // ---- promise 20

    private static void foretell(String text, int by, int sharp) {
        RingHand x = told(text);
        due(x.foretell(0), by);
        due(x.foretell(1), sharp);
    }

    @Sentence(promise = 20,
        says = "FORETELLING: by how many tenths (what 0), how many are SHARP then (1). NoSuchElementException: "
            + "another what.")
    static void noSuchOfForetell() {
        whats(1, what -> new RingHand().foretell(what));
        whats(1, what -> told("go 60 9;hand was;").foretell(what));
    }

    @Sentence(promise = 20, says = "FORETELLING by so many tenths f (-24 to 24)")
    static void farthestForetold() {
        // TURN rises by 9 each tenth; the hand adds so many times 9, which must be foretold back.
        String rising = "from 12;go 111 99;ring inch*9;lag 0;wrist 90;hole 1;hand seen";
        // Where that would be below 0, or above 999, it is kept: TURN 117 to 207, or 792 to 999, is SOFT.
        foretell(rising + "+24*9;", -24, 100 - 11);
        foretell(rising + "-24*9;", 24, 100 - 24);
        foretell(rising + "+23*9;", -23, 100 - 10);
        // By 25 it can't be; all are alike then, SHARP at the beginning and at the end, where 999 is the most.
        foretell(rising + "+25*9;", 0, 2);
        RingHand late = told("from 12;go 111 99;ring inch*9;lag 24;wrist 90;hole 1;");
        due(late.foretell(0), 24);
    }

    @Sentence(promise = 20,
        says = "did he SEE f times (SEEN less SEEN in the tenth ahead) more than he does (kept to 0 to 999; 'seen', "
            + "and what he SEES without a HAND; 'was' as it is)")
    static void foretoldIsKept() {
        // Beyond 999, or below 0, the hand would turn away; foretold by 1, only tenth 1 is SOFT.
        foretell("from 12;go 111 99;stay 3;ring inch*9;lag 1;wrist 90;hole 1;"
            + "hand seen-(997<seen and not seen=999)*500;", 1, 102);
        foretell("from 111;go 12 99;stay 3;ring (inch-12)*9;lag 1;wrist 90;hole 1;"
            + "hand seen+(seen<2 and not seen=0)*500;", 1, 102);
        foretell("from 12;go 111 99;stay 3;ring inch*9;lag 1;wrist 90;hole 1;", 1, 102);
        // 'was' is not foretold: only as it is it makes the ring right.
        foretell("from 12;go 90 78;ring inch*10;lag 1;wrist 90;hole 1;hand was+20;", 0, 78);
    }

    @Sentence(promise = 20,
        says = "f by which most are SHARP; of like ones that which is least without sign, of these the one below 0.")
    static void likeForetelling() {
        foretell("", 0, 1);
        foretell("stay 9;", 0, 10);
        foretell(STAY_600, 0, 601);
        // Only in tenth 2 is something else SEEN than in the one ahead, and there by 1 too much or too little.
        foretell("from 100;go 110 1;stay 1;ring inch;lag 0;hole 1;wrist 90;hand (tenth=1)*105+(1<tenth)*seen;", 0, 2);
        foretell("from 100;go 110 1;ring inch;lag 0;hole 3;wrist 90;hand 110-(seen=110)*9;", -1, 2);
        foretell("from 100;go 110 1;ring inch;lag 0;hole 3;wrist 90;hand 110-(seen=110 or seen=100)*9;", 1, 2);
        foretell("from 100;go 110 1;ring inch;lag 0;hole 3;wrist 90;hand 110-(89<seen and seen<131)*9;", -3, 2);
    }

    // ---- promise 21

    @Sentence(promise = 21, says = "HOLES; NONE: none. IllegalArgumentException: not 0 to 601.")
    static void argumentsOfHoles() {
        arguments(0, 601, n -> new RingHand().holes(n));
        arguments(0, 601, n -> told(STAY_600).holes(n));
        due(told(STAY_600).holes(601), 1);
        due(told("stay 99;".repeat(6) + "stay 5;").holes(601), -1);
        due(told("stay 99;".repeat(6) + "stay 5;").holes(600), 1);
        due(new RingHand().holes(0), 1);
        due(new RingHand().holes(601), -1);
    }

    private static int holesFor(int off) {
        return told(TWO_TENTHS + "hand 500-" + off + ";").holes(2);
    }

    @Sentence(promise = 21, says = "HOLES: the least one (1 to 60) by which so many tenths or more were SHARP; none.")
    static void leastHole() {
        due(holesFor(0), 1);
        due(holesFor(1), 1);
        due(holesFor(2), 2);
        due(holesFor(59), 59);
        due(holesFor(60), 60);
        due(holesFor(61), -1);
        RingHand x = told(TWO_TENTHS + "hand 560;hole 60;");
        due(x.holes(0), 1);
        due(x.holes(1), 1);
        due(x.holes(2), 60);
        due(x.holes(3), -1);
        due(x.count(6), 60);
    }

    // ---- promise 22

    @Sentence(promise = 22, says = "LIGHT: how much more; NONE: none. IllegalArgumentException: minutes.")
    static void argumentsOfLight() {
        RingHand x = told("stay 5;");
        arguments(0, 99, n -> x.light(n, 1));
        arguments(0, 99, n -> x.light(n, 99));
        arguments(1, 99, n -> x.light(0, n));
        arguments(1, 99, n -> x.light(99, n));
        bad(() -> x.light(-1, 0));
        bad(() -> x.light(100, 100));
    }

    private static int light(int hole, int off, int minutes, int take) {
        return told(TWO_TENTHS + "hole " + hole + ";hand 500+" + off + ";").light(minutes, take);
    }

    @Sentence(promise = 22,
        says = "LIGHT: HOLE h more than now (0 to 60 less HOLE) costs h times so many minutes (0 to 99)")
    static void mostLight() {
        due(light(59, 60, 0, 1), 1);
        due(light(59, 61, 0, 1), 0);
        due(light(60, 60, 0, 99), 0);
        due(light(60, 61, 0, 99), 0);
        due(light(1, 60, 0, 1), 59);
        due(light(1, 61, 0, 1), 0);
        due(light(1, 60, 1, 59), 0);
        due(light(1, 60, 1, 60), 59);
        due(light(1, 2, 99, 99), 0);
        due(light(1, 2, 98, 99), 1);
    }

    @Sentence(promise = 22,
        says = "a TAKE costs so many (1 to 99) and must be made TENTHS by SHARP ones times (not a whole number, as "
            + "it is)")
    static void takesAreNoWholeNumber() {
        // Three tenths, two of them SHARP, or all by 1 more: 3 by 2 TAKES or 1.
        RingHand x = told("stay 2;ring 500;hand 500+(tenth=2)*4;");
        due(x.light(1, 3), 1);
        due(x.light(1, 2), 0);
        due(x.light(2, 4), 0);
        due(x.light(2, 5), 1);
        due(x.light(49, 99), 1);
        due(x.light(50, 99), 0);
        // Only one of 601 is SHARP, and by 59 more all are.
        RingHand y = told(STAY_600 + "ring 500;wrist 90;hole 1;hand 560;");
        due(y.light(99, 9), 0);
        due(y.light(99, 10), 59);
        due(y.light(99, 99), 59);
    }

    @Sentence(promise = 22, says = "the least h by which all minutes are least; none, if by none any tenth is SHARP.")
    static void likeLight() {
        // Twice a TAKE, or once and 2 more: alike, if a TAKE costs as much as 2 more do.
        due(light(3, 5, 5, 9), 0);
        due(light(3, 5, 5, 10), 0);
        due(light(3, 5, 5, 11), 2);
        due(light(3, 5, 0, 1), 2);
        due(light(3, 3, 0, 1), 0);
        // In tenth 0 it is always SHARP: there is always one.
        due(light(1, 90, 99, 99), 0);
        due(new RingHand().light(0, 1), 0);
    }

    // ---- promise 23

    @Sentence(promise = 23, says = "half of the most by which TURNS of both differ, cut up.")
    static void oneHoleForBoth() {
        int[] behind = {0, 1, 2, 3, 4, 199, 200};
        int[] hole = {0, 1, 1, 2, 2, 100, 100};
        for (int i = 0; i < behind.length; i++) {
            due(told("from 100;ring inch;behind " + behind[i] + ";").both(), hole[i]);
        }
        due(told("from 480;ring inch;behind 200;").both(), 0);
        due(told("from 477;ring inch;behind 200;").both(), 2);
        due(told("from 100;behind 200;ring 999*(inch<200);").both(), 500);
        due(told("from 100;behind 200;ring 999*(199<inch);").both(), 500);
        // The most may be in the last tenth, or in the first one.
        due(told("from 480;go 478 1;ring inch;behind 200;").both(), 1);
        due(told("from 478;go 480 1;ring inch;behind 200;").both(), 1);
        due(new RingHand().both(), 0);
    }

    // ---- promises 24 and 25

    @Sentence(promise = 24, says = "IllegalArgumentException: not 0 to 3.")
    static void argumentsOfMarks() {
        arguments(0, 3, n -> new RingHand().marks(n));
        arguments(0, 3, n -> told("go 60 1;go 90 1;go 150 1;").marks(n));
        RingHand x = told("go 60 1;");
        due(x.marks(1), x.all(0));
        bad(() -> x.marks(4));
        bad(() -> x.marks(-1));
        due(x.kept(0), 120);
    }

    @Sentence(promise = 24, says = "CHALK: how many are SHARP; the row is kept; NONE: none (what is kept stays).")
    static void noRowOfMarks() {
        RingHand x = told("go 60 1;stay 3;");
        due(x.marks(2), x.all(0));
        due(x.kept(0), 120);
        due(x.kept(1), 60);
        due(x.marks(3), -1);
        due(x.kept(0), 120);
        due(x.kept(1), 60);
        none(() -> x.kept(2));
        due(x.marks(1), x.all(0));
        due(x.kept(0), 120);
        none(() -> x.kept(1));
        due(x.count(3), 0);
        due(x.count(11), 0);
        due(x.count(16), 0);
    }

    @Sentence(promise = 24, says = "none, if there are not so many.")
    static void placesForMarks() {
        RingHand one = told("stay 9;go 120 3;stay 1;");
        due(one.marks(1), 14);
        due(one.marks(2), -1);
        due(one.marks(3), -1);
        RingHand two = told("go 60 1;go 120 1;stay 1;go 60 1;");
        isTrue(two.marks(2) > 0);
        due(two.marks(3), -1);
        RingHand three = told("go 60 1;go 120 1;go 480 1;");
        isTrue(three.marks(3) > 0);
        due(three.kept(0), 120);
        due(three.kept(1), 60);
        due(three.kept(2), 480);
        // MARKS of the text are no places.
        due(told("mark 50;mark 60;").marks(2), -1);
    }

    @Sentence(promise = 24,
        says = "CHALK: so many MARKS (0 to 3) in place of all that are there, at INCHES at which the WALK or some "
            + "MOVE begins or ends")
    static void marksInPlaceOfAll() {
        // He is right by chalk alone, and the MARK that is there goes away.
        RingHand x = told("from 100;stay 1;go 200 1;stay 1;ring inch/2;eye 20;lag 0;wrist 90;mark 200;");
        due(x.all(0), 3);
        due(x.marks(0), 1);
        none(() -> x.kept(0));
        due(x.marks(1), 3);
        due(x.kept(0), 200);
        due(x.marks(2), 4);
        due(x.kept(0), 100);
        due(x.kept(1), 200);
        due(x.marks(0), 1);
        none(() -> x.kept(0));
        due(x.mark(0), 200);
        due(x.all(0), 3);
    }

    @Sentence(promise = 24,
        says = "by which most tenths are SHARP: the first such row of these places, their numbers rising")
    static void likeRowsOfMarks() {
        // All rows are alike.
        RingHand x = told("from 100;go 200 1;go 300 1;go 400 1;go 50 1;");
        int all = x.all(0);
        for (int many = 0; many <= 3; many++) {
            due(x.marks(many), all);
            for (int i = 0; i < many; i++) {
                due(x.kept(i), 100 * (i + 1));
            }
        }
        // Thirteen places, and only the last three of them help.
        RingHand y = told("from 130;go 140 1;go 150 1;go 160 1;go 170 1;go 180 1;go 190 1;go 200 1;go 210 1;go 220 1;"
            + "go 300 1;go 350 1;go 400 1;ring inch/2;lag 0;eye -30;wrist 90;hole 1;"
            + "hand ring+(299<seen*2)*(seen-ring);");
        due(y.marks(3), 4);
        due(y.kept(0), 300);
        due(y.kept(1), 350);
        due(y.kept(2), 400);
    }

    /** Thirteen places; the ring gets right only by a MARK, and only where it is told: all other rows are worse. */
    private static RingHand rightAt(int... places) {
        StringBuilder text = new StringBuilder("from 100;");
        for (int i = 1; i <= 12; i++) {
            text.append("go ").append(100 + 25 * i).append(" 1;");
        }
        text.append("ring inch/5;eye 30;lag 0;wrist 90;hole 1;hand ring+mark*(0");
        for (int place : places) {
            text.append(" or seen=").append(20 + 5 * place);
        }
        return told(text + ")*(seen-ring);");
    }

    private static void rowKept(RingHand x, int sharp, int... places) {
        due(x.marks(places.length), sharp);
        for (int i = 0; i < places.length; i++) {
            due(x.kept(i), 100 + 25 * places[i]);
        }
    }

    @Sentence(promise = 24, says = "(each once, in the order of the first of these)")
    static void rowsOfThirteenPlaces() {
        rowKept(rightAt(), 1, 0);
        rowKept(rightAt(1), 2, 1);
        rowKept(rightAt(12), 2, 12);
        rowKept(rightAt(), 1, 0, 1);
        rowKept(rightAt(2), 2, 0, 2);
        rowKept(rightAt(12), 2, 0, 12);
        rowKept(rightAt(1, 2), 3, 1, 2);
        rowKept(rightAt(1, 12), 3, 1, 12);
        rowKept(rightAt(11, 12), 3, 11, 12);
        rowKept(rightAt(), 1, 0, 1, 2);
        rowKept(rightAt(3), 2, 0, 1, 3);
        rowKept(rightAt(12), 2, 0, 1, 12);
        rowKept(rightAt(6, 12), 3, 0, 6, 12);
        rowKept(rightAt(11, 12), 3, 0, 11, 12);
        rowKept(rightAt(1, 2, 3), 4, 1, 2, 3);
        rowKept(rightAt(1, 2, 12), 4, 1, 2, 12);
        rowKept(rightAt(1, 11, 12), 4, 1, 11, 12);
        rowKept(rightAt(10, 11, 12), 4, 10, 11, 12);
        // By chalk he is wrong here; still no row has fewer MARKS, or one elsewhere.
        RingHand worse = told("from 100;stay 3;ring inch;eye 10;hand seen-10;");
        due(worse.marks(0), 4);
        due(worse.marks(1), 1);
        due(worse.kept(0), 100);
        RingHand worst = told("from 100;stay 3;go 140 1;go 180 1;ring inch;eye 10;lag 0;wrist 90;hand seen*10/11;");
        due(worst.marks(0), 6);
        due(worst.marks(2), 4);
        due(worst.kept(0), 140);
        due(worst.kept(1), 180);
        due(worst.marks(3), 1);
        // Places of a SCENE that is gone are none.
        due(tell(worse, "from 300;stay 3;"), 0);
        due(worse.marks(2), -1);
        due(worse.marks(1), 4);
        due(worse.kept(0), 300);
    }

    @Sentence(promise = 25,
        says = "INCHES of the i-th MARK by the row that is kept. NoSuchElementException: there is none, none is "
            + "kept.")
    static void kept() {
        RingHand x = told("go 60 1;go 90 1;");
        for (int i : new int[] {-1, 0, 1, 3, LEAST_INT, GREATEST_INT}) {
            none(() -> x.kept(i));
        }
        for (int many = 0; many <= 3; many++) {
            x.marks(many);
            int[] places = {120, 60, 90};
            for (int i = 0; i < many; i++) {
                due(x.kept(i), places[i]);
            }
            int behind = many;
            none(() -> x.kept(behind));
            none(() -> x.kept(-1));
            none(() -> x.kept(3));
            none(() -> x.kept(LEAST_INT));
            none(() -> x.kept(GREATEST_INT));
        }
        due(tell(x, "?"), 1);
        due(x.kept(2), 90);
        due(x.scene(0), 0);
        none(() -> x.kept(0));
        // A row that was refused keeps none.
        RingHand y = new RingHand();
        due(y.marks(2), -1);
        none(() -> y.kept(0));
        bad(() -> y.marks(4));
        none(() -> y.kept(0));
    }

    // ---- promise 26

    @Sentence(promise = 26,
        says = "NoSuchElementException: another what. IllegalArgumentException (behind that): n, late, good.")
    static void argumentsOfTakes() {
        RingHand x = told("stay 1;");
        whats(2, what -> x.takes(1, 1, 1, 1, what));
        whats(2, what -> x.takes(1, 0, 30, 601, what));
        arguments(0, 40, n -> x.takes(1, n, 1, 0, 0));
        arguments(1, 30, late -> x.takes(1, 1, late, 0, 0));
        arguments(0, 601, good -> x.takes(1, 1, 1, good, 0));
        // What comes first.
        none(() -> x.takes(1, 41, 1, 1, 3));
        none(() -> x.takes(1, -1, 0, -1, -1));
        none(() -> x.takes(1, 1, 31, 1, 3));
        none(() -> x.takes(1, 1, 1, 602, 3));
        // Without TAKES the others are looked at, too.
        bad(() -> x.takes(1, 0, 0, 0, 0));
        bad(() -> x.takes(1, 0, 31, 0, 2));
        bad(() -> x.takes(1, 0, 1, 602, 1));
    }

    @Sentence(promise = 26, says = "TAKES: GOOD ones (what 0), SHARP tenths (1), the fewest (2; 0 without TAKES).")
    static void noTakes() {
        RingHand x = told("stay 5;");
        for (int what = 0; what <= 2; what++) {
            due(x.takes(1, 0, 30, 0, what), 0);
        }
        due(x.takes(1, 1, 1, 0, 0), 1);
        due(x.takes(1, 1, 1, 0, 1), 6);
        due(x.takes(1, 1, 1, 0, 2), 6);
        due(x.takes(1, 40, 30, 6, 0), 40);
        due(x.takes(1, 40, 30, 6, 1), 240);
        due(x.takes(1, 40, 30, 6, 2), 6);
    }

    private static void takes(int seed, int n, int late) {
        RingHand x = told(BY_PLAN);
        long state = seed;
        int sum = 0;
        int latest = 0;
        int good = 0;
        for (int i = 0; i < n; i++) {
            state = (state * 1103515245L + 12345L) & 0xffffffffL;
            int draw = (int) (state >> 16 & 0x7fff) % late;
            sum += draw;
            latest = Math.max(latest, draw);
            good += draw <= 2 ? 1 : 0;
        }
        due(x.takes(seed, n, late, 60, 0), good);
        due(x.takes(seed, n, late, 60, 1), 62 * n - sum);
        due(x.takes(seed, n, late, 60, 2), 62 - latest);
    }

    @Sentence(promise = 26,
        says = "A seed becomes itself times 1103515245 and 12345 (an int that wraps); a DRAW of n is its bits 16 to "
            + "30 MOD n then.")
    static void draws() {
        for (int seed : new int[] {0, 1, -1, 12345, LEAST_INT, GREATEST_INT}) {
            takes(seed, 1, 30);
            takes(seed, 40, 30);
            takes(seed, 40, 2);
            takes(seed, 40, 1);
            takes(seed, 7, 29);
        }
    }

    @Sentence(promise = 26,
        says = "(at the beginning till then), and TENTHS are as many as ever: how many were GOOD (so many tenths, 0 "
            + "to 601, or more SHARP)")
    static void goodTakes() {
        RingHand x = told("from 120;go 60 1;stay 4;lag 1;wrist 90;");
        // By 5 SHARP ones of 6, or by all, where she never goes.
        due(x.takes(1, 3, 1, 5, 0), 3);
        due(x.takes(1, 3, 1, 6, 0), 0);
        due(x.takes(1, 3, 1, 0, 0), 3);
        due(x.takes(1, 3, 1, 601, 0), 0);
        RingHand full = told(STAY_600);
        due(full.takes(1, 2, 30, 601, 0), 2);
        due(full.takes(1, 40, 30, 601, 1), 40 * 601);
        due(full.takes(1, 2, 30, 601, 2), 601);
        // The last tenth is SOFT, late or not.
        RingHand last = told(STAY_600 + "hand 36+9*(tenth=600);");
        due(last.takes(1, 2, 30, 601, 0), 0);
        due(last.takes(1, 2, 30, 600, 0), 2);
    }

    // ---- promise 33

    @Sentence(promise = 33, says = "NoSuchElementException: there is none, another what (of i NONE, too).")
    static void noSuchRun() {
        RingHand x = told("stay 9;ring 50;hand 50+(tenth=1)*9+(tenth=4 or tenth=5)*9+(tenth=9)*9;");
        due(x.runs(-1, 0), 3);
        due(x.runs(-1, 1), 3);
        int[] first = {1, 4, 9};
        int[] many = {1, 2, 1};
        for (int i = 0; i < 3; i++) {
            due(x.runs(i, 0), first[i]);
            due(x.runs(i, 1), many[i]);
        }
        for (int i : new int[] {-2, 3, 4, LEAST_INT, GREATEST_INT}) {
            none(() -> x.runs(i, 0));
            none(() -> x.runs(i, 1));
        }
        for (int i = -1; i <= 3; i++) {
            int run = i;
            none(() -> x.runs(run, 2));
            none(() -> x.runs(run, -1));
            none(() -> x.runs(run, LEAST_INT));
            none(() -> x.runs(run, GREATEST_INT));
        }
        RingHand sharp = told("stay 9;");
        due(sharp.runs(-1, 0), 0);
        due(sharp.runs(-1, 1), 0);
        none(() -> sharp.runs(0, 0));
        none(() -> sharp.runs(0, 1));
        none(() -> sharp.runs(-1, 2));
    }

    @Sentence(promise = 33, says = "RUNS are SOFT tenths side by side, as many as can be")
    static void longestAndMostRuns() {
        RingHand one = told(STAY_600 + "ring 0;hand 999;");
        due(one.runs(-1, 0), 1);
        due(one.runs(0, 0), 1);
        due(one.runs(0, 1), 600);
        none(() -> one.runs(1, 0));
        // SOFT in each second tenth.
        RingHand many = told(STAY_600 + "ring 50;hand 50+9*(tenth-tenth/2*2);");
        due(many.runs(-1, 0), 300);
        due(many.runs(299, 0), 599);
        due(many.runs(299, 1), 1);
        none(() -> many.runs(300, 0));
    }

    // ---- promise 34

    @Sentence(promise = 34,
        says = "of EYE 0, LAG 0, WRIST 90 (each alone, all else as it is) that by which most tenths are SHARP, if "
            + "more than now (of like ones the first of these: 0 to 2); none.")
    static void cures() {
        due(told("").cure(), -1);
        due(told("stay 9;").cure(), -1);
        // It is all so already, and still SOFT.
        due(told("stay 9;eye 0;lag 0;wrist 90;hand 99;").cure(), -1);
        // None makes it better.
        due(told("stay 9;eye 9;lag 9;wrist 9;hand 999;").cure(), -1);
        // EYE 0, not 1; LAG 0, not 1; WRIST 90, no less and no more.
        due(told("from 200;stay 1;ring inch;eye 2;hole 1;").cure(), 0);
        due(told("from 200;stay 1;ring inch;eye 1;hole 1;").cure(), 0);
        due(told("from 200;stay 1;ring inch;eye -1;hole 1;").cure(), 0);
        due(told("from 200;stay 1;ring inch;eye 1;hole 2;").cure(), -1);
        due(told("from 100;go 120 1;ring inch;lag 1;").cure(), 1);
        due(told("from 100;go 200 1;ring inch;lag 0;hole 10;").cure(), 2);
        due(told("from 100;go 200 1;ring inch;lag 0;hole 9;").cure(), -1);
        // EYE and LAG, EYE and WRIST, LAG and WRIST: each would make one more SHARP.
        due(told("from 100;stay 1;go 180 1;stay 2;mark 180;ring inch;eye 10;lag 1;wrist 90;").cure(), 0);
        due(told("from 100;stay 1;go 180 1;stay 2;mark 180;ring inch;eye 10;lag 0;wrist 40;").cure(), 0);
        due(told("from 120;go 60 1;stay 5;lag 1;wrist 18;").cure(), 1);
        // Only together they would help.
        due(told("from 100;go 190 1;ring inch;lag 1;wrist 50;").cure(), -1);
        RingHand x = told("from 120;go 60 1;stay 5;lag 0;wrist 18;");
        due(x.cure(), 2);
        due(x.count(8), 18);
    }

    // ---- promise 35

    private static int wrists(int to, int hole) {
        return told("from 100;go " + to + " 1;ring inch;lag 0;hole " + hole + ";").wrists();
    }

    @Sentence(promise = 35, says = "WRISTS: the least WRIST (1 to 90) by which as many tenths are SHARP as by any.")
    static void leastWrist() {
        due(told("").wrists(), 1);
        due(told("stay 9;").wrists(), 1);
        due(wrists(103, 3), 1);
        due(wrists(104, 3), 1);
        due(wrists(105, 3), 2);
        due(wrists(95, 3), 2);
        due(wrists(199, 10), 89);
        due(wrists(200, 10), 90);
        // By 91 it would be SHARP once more.
        due(wrists(201, 10), 1);
        RingHand x = told("wrist 7;");
        due(x.wrists(), 1);
        due(x.count(8), 7);
    }

    // ---- promise 36

    private static int learn(String eye) {
        return told("from 200;stay 1;ring inch;wrist 90;hole 1;eye " + eye + ";").learn();
    }

    @Sentence(promise = 36,
        says = "LEARNING: of EYES from what it is to 0, one nearer each day, after how many days first as many are "
            + "SHARP as by any of them.")
    static void learning() {
        due(new RingHand().learn(), 0);
        due(learn("0"), 0);
        due(learn("1"), 1);
        due(learn("-1"), 1);
        due(learn("30"), 30);
        due(learn("-30"), 30);
        due(learn("29"), 29);
        // Of like ones the first.
        due(told("from 12;stay 1;eye -30;").learn(), 0);
        due(told("from 200;stay 1;ring inch;wrist 90;eye 30;hole 60;").learn(), 0);
        due(told("from 200;stay 1;ring inch;wrist 90;eye 30;hole 59;").learn(), 1);
        // Beyond 0 nobody learns, and no EYE farther off is asked for.
        due(told("from 200;stay 1;ring inch;eye 12;hole 1;hand seen-10;").learn(), 7);
        due(told("from 200;stay 1;ring inch;eye 12;hole 1;hand seen+10;").learn(), 0);
        due(told("from 200;stay 1;ring inch;eye 3;hole 1;hand seen-10;").learn(), 0);
        RingHand x = told("from 200;stay 1;eye -30;");
        x.learn();
        due(x.count(9), -30);
    }

    // ---- promise 37

    private static void shift(String text, int by, int sharp) {
        RingHand x = told(text);
        due(x.shift(0), by);
        due(x.shift(1), sharp);
    }

    @Sentence(promise = 37,
        says = "THE SHIFT: by how many tenths (what 0), how many are SHARP then (1). NoSuchElementException: "
            + "another what.")
    static void noSuchOfShift() {
        whats(1, what -> new RingHand().shift(what));
        whats(1, what -> told("stay 5;behind 60;him 2;").shift(what));
    }

    @Sentence(promise = 37,
        says = "by how many tenths (-24 to 24) all CHANGES should come earlier or later, for the hand alone")
    static void farthestShift() {
        // The wrist needs 100 tenths; as many as HOLE is it may begin earlier, and be SHARP so many earlier.
        String slow = "from 200;stay 99;stay 99;ring inch;behind 100;him 60;wrist 1;lag 0;hole ";
        shift(slow + "23;", -23, 100 + 23 + 23);
        shift(slow + "24;", -24, 100 + 24 + 24);
        shift(slow + "25;", -24, 100 + 24 + 25);
        // 24 tenths later both CHANGES are past the end, and he never turns away from her.
        shift("from 12;stay 28;ring inch;behind 200;him 5;her 28;wrist 2;hole 1;lag 0;", 24, 6);
        shift("from 12;stay 27;ring inch;behind 200;him 5;her 27;wrist 2;hole 1;lag 0;", 23, 6);
        shift("from 12;stay 29;ring inch;behind 200;him 5;her 29;wrist 2;hole 1;lag 0;", 0, 5);
    }

    @Sentence(promise = 37,
        says = "so that most are SHARP; of like ones that which is least without sign, of these the one below 0.")
    static void likeShifts() {
        shift("", 0, 1);
        shift("stay 5;", 0, 6);
        shift("stay 5;him 2;", 0, 6);
        shift("stay 5;behind 60;him 6;", 0, 6);
        shift(STAY_600 + "behind 60;him 600;wrist 90;lag 0;", 0, 601);
        // -5 and 5 are alike: it is hers for him all along.
        shift("from 35;stay 7;lag 1;wrist 10;hole 4;behind 12;him 3;her 6;", -5, 5);
    }

    @Sentence(promise = 37, says = "(He follows his face from a tenth t on in which the CHANGE, shifted, has come.)")
    static void shiftedChanges() {
        // From him to her the ring needs two tenths, one of which may be ahead of the CHANGE.
        shift("from 100;stay 9;ring inch;behind 40;him 5;wrist 20;hole 20;lag 0;", 0, 10);
        shift("from 100;stay 9;ring inch;behind 40;him 5;wrist 20;hole 19;lag 0;", 0, 9);
        shift("from 100;stay 9;ring inch;behind 30;him 5;wrist 10;hole 10;lag 0;", -1, 10);
        // A CHANGE at 1 that comes a tenth earlier is there in tenth 0, in which the ring doesn't ask.
        shift("from 100;stay 9;ring inch;behind 30;him 1;wrist 10;hole 10;lag 0;", 0, 9);
    }

    // ---- promise 38

    private static void slip(String text, int late, int sharp) {
        RingHand x = told(text);
        due(x.slip(0), late);
        due(x.slip(1), sharp);
    }

    @Sentence(promise = 38,
        says = "THE WORST SLIP: how late (what 0), how many are SHARP then (1). NoSuchElementException: another "
            + "what.")
    static void noSuchOfSlip() {
        whats(1, what -> new RingHand().slip(what));
        whats(1, what -> told(BY_PLAN).slip(what));
    }

    @Sentence(promise = 38,
        says = "THE WORST SLIP: late by how many tenths (0 to 30) fewest are SHARP (of like ones the least)")
    static void worstSlip() {
        slip(BY_PLAN, 30, 32);
        slip("from 120;stay 10;go 60 1;stay 29;lag 0;wrist 90;hand 36+36*(10<tenth);", 30, 41 - 30);
        slip("from 120;stay 10;go 60 1;stay 28;lag 0;wrist 90;hand 36+36*(10<tenth);", 29, 40 - 29);
        slip("", 0, 1);
        slip("stay 9;", 0, 10);
        slip(STAY_600 + "hand 99;", 0, 1);
        // She is late only where that is asked.
        RingHand x = told(BY_PLAN);
        due(x.slip(1), 32);
        due(x.all(0), 62);
        due(x.takes(1, 40, 30, 0, 0), 40);
        due(x.holes(62), 1);
        // Worst, if she is on time, or only a tenth late.
        slip("from 120;go 60 1;stay 9;lag 0;wrist 90;hand 36;", 0, 1);
        slip("from 120;go 60 1;stay 1;lag 0;wrist 90;hand 36+36*(tenth=1);", 1, 1);
    }

    // ---- promise 40

    @Sentence(promise = 40,
        says = "NoSuchElementException: another what. IllegalArgumentException (behind that): not 0 to 999.")
    static void argumentsOfDepth() {
        RingHand x = new RingHand();
        whats(1, what -> x.depth(0, what));
        whats(1, what -> x.depth(999, what));
        arguments(0, 999, ring -> x.depth(ring, 0));
        arguments(0, 999, ring -> x.depth(ring, 1));
        none(() -> x.depth(-1, 2));
        none(() -> x.depth(1000, -1));
    }

    private static void depth(String text, int ring, int least, int greatest) {
        RingHand x = told(text);
        due(x.depth(ring, 0), least);
        due(x.depth(ring, 1), greatest);
    }

    @Sentence(promise = 40,
        says = "DEPTH of where the ring might be (0 to 999): the least and the greatest INCHES (12 to 480) whose "
            + "TURN is no farther from it than HOLE; none.")
    static void depthAtTheEnds() {
        depth("ring inch;", 8, -1, -1);
        depth("ring inch;", 9, 12, 12);
        depth("ring inch;", 10, 12, 13);
        depth("ring inch;", 100, 97, 103);
        depth("ring inch;", 482, 479, 480);
        depth("ring inch;", 483, 480, 480);
        depth("ring inch;", 484, -1, -1);
        depth("ring inch;hole 1;", 100, 99, 101);
        depth("ring inch;hole 60;", 540, 480, 480);
        depth("ring inch;hole 60;", 541, -1, -1);
        depth("", 5, -1, -1);
        depth("", 6, 433, 480);
        depth("", 363, 12, 12);
        depth("", 364, -1, -1);
        depth("ring 0;", 0, 12, 480);
        depth("ring 0;", 3, 12, 480);
        depth("ring 0;", 4, -1, -1);
        depth("ring 999;", 999, 12, 480);
        depth("ring 999;", 996, 12, 480);
        depth("ring 999;", 995, -1, -1);
        depth("ring (inch=12 or inch=480)*99;", 99, 12, 480);
    }

    // ---- promise 41

    @Sentence(promise = 41, says = "SHOTS: how many. IllegalArgumentException: not 1 to 601.")
    static void argumentsOfShots() {
        arguments(1, 601, n -> new RingHand().shots(n));
        arguments(1, 601, n -> told(STAY_600).shots(n));
        bad(() -> told("stay 5;").shots(0));
    }

    @Sentence(promise = 41,
        says = "SHOTS: how many rows of so many tenths (1 to 601) side by side there are that are SHARP all along.")
    static void shots() {
        RingHand full = told(STAY_600);
        due(full.shots(1), 601);
        due(full.shots(600), 2);
        due(full.shots(601), 1);
        RingHand halved = told(STAY_600 + "ring 50;hand 50+9*(tenth=300);");
        due(halved.shots(1), 600);
        due(halved.shots(300), 2);
        due(halved.shots(299), 4);
        due(halved.shots(301), 0);
        due(halved.shots(601), 0);
        RingHand soft = told("stay 5;ring 50;hand 90;");
        due(soft.shots(1), 1);
        due(soft.shots(2), 0);
        RingHand last = told("stay 5;ring 50;hand 50+9*(tenth=5);");
        due(last.shots(5), 1);
        due(last.shots(6), 0);
    }

    // ---- promise 42

    private static void quickest(String text, int by, int tenth) {
        RingHand x = told(text);
        due(x.quickest(0), by);
        due(x.quickest(1), tenth);
    }

    @Sentence(promise = 42,
        says = "THE QUICKEST: by how much (what 0), the tenth (1). NoSuchElementException: another what.")
    static void noSuchOfQuickest() {
        whats(1, what -> new RingHand().quickest(what));
        whats(1, what -> told("go 60 5;").quickest(what));
    }

    @Sentence(promise = 42,
        says = "is another in a tenth than in the one ahead (0 without a later one); the first such tenth (0 "
            + "without).")
    static void quickest() {
        quickest("", 0, 0);
        quickest("behind 60;him 1;", 0, 0);
        // There is a later one, but TURN is no other.
        quickest("stay 1;", 0, 1);
        quickest(STAY_600, 0, 1);
        quickest("go 60 9;ring 7;", 0, 1);
        // Of like ones the first; the last tenth; up and down.
        quickest("from 100;go 120 2;go 100 2;ring inch;", 10, 1);
        quickest("from 100;go 110 1;go 99 1;ring inch;", 11, 2);
        quickest("from 100;stay 5;go 101 1;ring inch;", 1, 6);
        quickest("stay 9;behind 200;him 9;ring 999*(inch<200);", 999, 9);
        quickest("stay 9;behind 200;him 10;ring 999*(inch<200);", 0, 1);
        quickest(STAY_600 + "behind 1;him 600;ring inch;", 1, 600);
    }
}
