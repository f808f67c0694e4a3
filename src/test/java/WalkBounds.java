/** The bounds of the walk, the ring and what is seen of them (Terms, ==== 2; promises 1 and 5 to 10). */
final class WalkBounds extends Checks {
    // ---- promise 1

    @Sentence(promise = 1, says = "She stands at 120 INCHES, nobody behind her.")
    static void newObject() {
        RingHand x = new RingHand();
        due(x.inches(0, 0), 120);
        due(x.inches(0, 1), 120);
        counts(x, 0, 0, 0, 0, 0, 0, -1, 3, 2, 20, 0, 0, 0, 0, 0, 0, 0, 0, 0);
        due(x.fault(), -1);
        int[] tenth = {0, 36, 36, 0, 1, 0};
        for (int i = 0; i < tenth.length; i++) {
            due(x.tenth(0, i), tenth[i]);
        }
        int[] all = {1, 0, 0, -1, 0, 0, 0};
        for (int i = 0; i < all.length; i++) {
            due(x.all(i), all[i]);
        }
    }

    @Sentence(promise = 1, says = "NONE = -1")
    static void nothingYet() {
        RingHand x = new RingHand();
        due(RingHand.NONE, -1);
        due(x.undo(), -1);
        isTrue(!x.restore());
        none(() -> x.mark(0));
        none(() -> x.kept(0));
        for (int what = 0; what <= 3; what++) {
            due(x.best(what), -1);
        }
        due(x.foretell(0), 0);
        due(x.foretell(1), 1);
        due(x.holes(1), 1);
        due(x.holes(2), -1);
        due(x.light(1, 1), 0);
        due(x.both(), 0);
        due(x.takes(1, 0, 1, 0, 2), 0);
        due(x.takes(1, 3, 30, 1, 1), 3);
        due(x.fits(0), 21);
        due(x.fits(1), 0);
        due(x.next(480, 0), 0);
        due(x.next(480, 1), 1);
        due(x.middle(0), 0);
        due(x.middle(1), 1);
        due(x.middle(2), 0);
        due(x.runs(-1, 0), 0);
        none(() -> x.runs(0, 0));
        due(x.cure(), -1);
        due(x.wrists(), 1);
        due(x.learn(), 0);
        due(x.shift(0), 0);
        due(x.shift(1), 1);
        due(x.slip(0), 0);
        due(x.slip(1), 1);
        due(x.lags(0), 0);
        due(x.lags(1), 24);
        due(x.shots(1), 1);
        due(x.shots(2), 0);
        due(x.quickest(0), 0);
        due(x.quickest(1), 0);
        x.forget();
        due(x.count(12), 0);
    }

    // ---- promise 5

    @Sentence(promise = 5, says = "NoSuchElementException: another what.")
    static void noSuchCount() {
        RingHand x = new RingHand();
        due(x.count(0), 0);
        due(x.count(17), 0);
        for (int what : new int[] {-1, 18, 19, LEAST_INT, GREATEST_INT}) {
            none(() -> x.count(what));
        }
    }

    @Sentence(promise = 5,
        says = "0 the last of TENTHS, 1 MOVES, 2 CHANGES, 3 MARKS, 4 HANDS, 5 the HAND in force (NONE)")
    static void emptyAndFullCounts() {
        RingHand none = told("");
        RingHand full = told("stay 50;".repeat(12) + "him 1;her 2;him 3;her 4;him 5;her 6;"
            + "mark 12;mark 13;mark 14;mark 15;mark 16;mark 17;hand 1;hand 2;hand 3;hand 4;");
        int[] most = {600, 12, 6, 6, 4, 0};
        for (int i = 0; i < most.length; i++) {
            due(none.count(i), i == 5 ? -1 : 0);
            due(full.count(i), most[i]);
        }
        isTrue(full.hand(3));
        due(full.count(5), 3);
        isTrue(full.hand(-1));
        due(full.count(5), -1);
    }

    @Sentence(promise = 5, says = "11 ACTS that are kept, 12 SEEN, 13 the BOOK: how many, 14 bytes of the tape")
    static void emptyAndFullRows() {
        RingHand x = told("");
        for (int i = 0; i <= 41; i++) {
            due(x.count(11), Math.min(40, i));
            x.hole(1 + i);
        }
        for (int i = 0; i <= 9; i++) {
            due(x.count(12), Math.min(8, i));
            x.see(0, true);
        }
        for (int i = 0; i <= 17; i++) {
            due(x.count(13), Math.min(16, i));
            x.book(12);
        }
        for (int i = 0; i <= 36; i++) {
            due(x.count(14), Math.min(700, 20 * i));
            feedText(x, BLANKS);
        }
    }

    @Sentence(promise = 5,
        says = "STATUS: how many calls were refused: 0 of TEXTS with a FAULT, 1 of ACTS, 2 of what is SEEN, of the "
            + "BOOK.")
    static void status() {
        RingHand x = told("stay 1;mark 50;hand 1;");
        status(x, 0, 0, 0);
        tell(x, "?");
        status(x, 1, 0, 0);
        bad(() -> x.scene(1));
        status(x, 1, 0, 0);
        x.hole(0);
        x.lag(-1);
        x.wrist(0);
        x.eye(31);
        x.hand(1);
        x.behind(201);
        x.chalk(0, 11);
        status(x, 1, 7, 0);
        none(() -> x.chalk(1, 11));
        x.undo();
        x.restore();
        status(x, 1, 7, 0);
        x.book(11);
        status(x, 1, 7, 1);
        none(() -> x.see(2, true));
        status(x, 1, 7, 1);
        for (int i = 0; i < 9; i++) {
            x.see(1, true);
        }
        status(x, 1, 7, 2);
        for (int i = 0; i < 17; i++) {
            x.book(12);
        }
        status(x, 1, 7, 3);
        // Neither a tape that is full nor answers that there is none are refused calls.
        for (int i = 0; i < 36; i++) {
            feedText(x, BLANKS);
        }
        x.marks(3);
        x.holes(601);
        status(x, 1, 7, 3);
        due(x.scene(700), 0);
        status(x, 1, 7, 3);
    }

    @Sentence(promise = 5, says = "An object is used for at most 512 calls after it has been made")
    static void lastCall() {
        RingHand x = new RingHand();
        for (int i = 1; i <= 511; i++) {
            x.hole(i % 2 == 0 ? 61 : 1 + i % 60);
        }
        due(x.count(16), 255);
        RingHand y = new RingHand();
        for (int i = 1; i <= 511; i++) {
            y.lag(i % 25);
        }
        due(y.undo(), 39);
    }

    private static void status(RingHand x, int texts, int acts, int notes) {
        due(x.count(15), texts);
        due(x.count(16), acts);
        due(x.count(17), notes);
    }

    // ---- promise 6

    @Sentence(promise = 6, says = "The i-th MARK's INCHES. NoSuchElementException: there is none.")
    static void noSuchMark() {
        RingHand empty = told("stay 1;");
        none(() -> empty.mark(0));
        none(() -> empty.mark(-1));
        RingHand one = told("mark 480;");
        due(one.mark(0), 480);
        none(() -> one.mark(1));
        RingHand full = told("mark 12;mark 22;mark 32;mark 42;mark 52;mark 62;");
        for (int i = 0; i < 6; i++) {
            due(full.mark(i), 12 + 10 * i);
        }
        for (int i : new int[] {-1, 6, 7, LEAST_INT, GREATEST_INT}) {
            none(() -> full.mark(i));
        }
    }

    // ---- promise 7

    @Sentence(promise = 7, says = "NoSuchElementException: no such tenth of the SCENE (as everywhere), another who.")
    static void noSuchTenth() {
        RingHand still = told("");
        due(still.inches(0, 0), 120);
        none(() -> still.inches(1, 0));
        RingHand x = told("go 60 2;stay 3;");
        due(x.inches(5, 0), 60);
        due(x.inches(5, 1), 60);
        for (int t : new int[] {-1, 6, 600, 601, LEAST_INT, GREATEST_INT}) {
            none(() -> x.inches(t, 0));
            none(() -> x.tenth(t, 0));
            none(() -> x.see(t, true));
        }
        for (int who : new int[] {-1, 2, LEAST_INT, GREATEST_INT}) {
            none(() -> x.inches(0, who));
            none(() -> x.inches(6, who));
        }
        RingHand full = told(STAY_600);
        due(full.inches(600, 0), 120);
        none(() -> full.inches(601, 0));
        due(full.tenth(600, 4), 1);
        none(() -> full.tenth(601, 4));
        due(full.see(600, true), 1);
        none(() -> full.see(601, true));
    }

    @Sentence(promise = 7,
        says = "SHE is in tenth t of a MOVE (0 as it begins) at from + (to - from) * t / tenths, cut down towards 0 "
            + "(the fraction alone)")
    static void cutTowardsNothing() {
        RingHand up = told("from 12;go 480 99;");
        RingHand down = told("from 480;go 12 99;");
        // 468 by 99 is 4 and a fraction, 98 times that 463 and a fraction.
        int[] tenths = {0, 1, 98, 99};
        int[] way = {0, 4, 463, 468};
        for (int i = 0; i < tenths.length; i++) {
            due(up.inches(tenths[i], 0), 12 + way[i]);
            due(down.inches(tenths[i], 0), 480 - way[i]);
        }
        RingHand little = told("from 100;go 101 3;go 100 3;");
        int[] her = {100, 100, 100, 101, 101, 101, 100};
        for (int t = 0; t < her.length; t++) {
            due(little.inches(t, 0), her[t]);
        }
    }

    @Sentence(promise = 7,
        says = "at the end of the last MOVE she stays. TENTHS of a SCENE are 0 to that in which the last MOVE ends.")
    static void endOfMoves() {
        RingHand x = told("from 100;go 110 1;go 90 2;stay 2;");
        int[] her = {100, 110, 100, 90, 90, 90};
        due(x.count(0), 5);
        for (int t = 0; t < her.length; t++) {
            due(x.inches(t, 0), her[t]);
        }
        none(() -> x.inches(6, 0));
        due(told("go 480 1;").inches(1, 0), 480);
        RingHand far = told("go 60 99;".repeat(6) + "go 12 6;");
        due(far.inches(594, 0), 60);
        due(far.inches(599, 0), 20);
        due(far.inches(600, 0), 12);
    }

    @Sentence(promise = 7, says = "nowhere above 480")
    static void heStopsAtTheFarthest() {
        due(told("from 280;behind 200;").inches(0, 1), 480);
        due(told("from 279;behind 200;").inches(0, 1), 479);
        due(told("from 281;behind 200;").inches(0, 1), 480);
        due(told("from 480;behind 1;").inches(0, 1), 480);
        due(told("from 480;behind 0;").inches(0, 1), 480);
        due(told("from 12;behind 0;").inches(0, 1), 12);
        due(told("from 12;behind 1;").inches(0, 1), 13);
        // There also his face is.
        RingHand x = told("from 400;stay 2;behind 200;him 1;ring inch*2;");
        due(x.tenth(1, 3) + x.tenth(1, 2), 960);
        due(x.tenth(1, 1), 960);
    }

    // ---- promise 8

    @Sentence(promise = 8, says = "TURN of INCHES. IllegalArgumentException: not 12 to 480.")
    static void noInches() {
        RingHand x = told("ring inch;");
        due(x.turn(12), 12);
        due(x.turn(480), 480);
        for (int inches : new int[] {11, 481, 0, -12, LEAST_INT, GREATEST_INT}) {
            bad(() -> x.turn(inches));
            bad(() -> new RingHand().turn(inches));
        }
    }

    @Sentence(promise = 8, says = "TURN of INCHES: what RING gives (kept to 0 to 999)")
    static void turnIsKept() {
        due(told("ring 999;").turn(12), 999);
        due(told("ring 1000;").turn(12), 999);
        due(told("ring 998;").turn(12), 998);
        due(told("ring 0;").turn(12), 0);
        due(told("ring 0-1;").turn(12), 0);
        due(told("ring 1;").turn(12), 1);
        due(told("ring 9999*9999;").turn(12), 999);
        // What wraps is below 0.
        due(told("ring 2048*2048*512;").turn(12), 0);
        due(told("ring 2048*2048*512-1;").turn(12), 999);
        RingHand x = told("ring inch*10-200;");
        due(x.turn(19), 0);
        due(x.turn(20), 0);
        due(x.turn(21), 10);
        due(x.turn(119), 990);
        due(x.turn(120), 999);
    }

    @Sentence(promise = 8, says = "without 4320 by INCHES, cut down")
    static void turnWithoutRing() {
        RingHand x = told("");
        due(x.turn(12), 360);
        due(x.turn(13), 332);
        due(x.turn(29), 148);
        due(x.turn(30), 144);
        due(x.turn(432), 10);
        due(x.turn(433), 9);
        due(x.turn(480), 9);
    }

    // ---- promise 9

    @Sentence(promise = 9, says = "NoSuchElementException: also another what.")
    static void noSuchOfTenth() {
        RingHand x = told("stay 3;");
        due(x.tenth(3, 0), 0);
        due(x.tenth(3, 5), 0);
        for (int what : new int[] {-1, 6, LEAST_INT, GREATEST_INT}) {
            none(() -> x.tenth(3, what));
            none(() -> x.tenth(4, what));
        }
        none(() -> x.tenth(4, 5));
        none(() -> x.tenth(-1, 0));
    }

    @Sentence(promise = 9, says = "WHOSE face it is: hers from tenth 0 on")
    static void faceAtFirst() {
        RingHand x = told("stay 3;behind 60;him 1;her 2;him 3;");
        int[] face = {0, 1, 0, 1};
        for (int t = 0; t < face.length; t++) {
            due(x.tenth(t, 0), face[t]);
        }
        due(x.tenth(0, 2), 36);
        due(x.tenth(0, 1), 36);
        due(x.tenth(1, 1), 24);
    }

    private static int judged(int from, int eye) {
        return told("from " + from + ";ring inch;eye " + (eye < 0 ? "-" : "") + Math.abs(eye) + ";").tenth(0, 1);
    }

    @Sentence(promise = 9,
        says = "JUDGED are INCHES and EYE of them in a hundred, cut down towards 0 (the part alone), kept to 12 to "
            + "480")
    static void judgedIsKept() {
        due(judged(12, -30), 12);
        due(judged(16, -30), 12);
        due(judged(17, -30), 12);
        due(judged(18, -30), 13);
        due(judged(368, 30), 478);
        due(judged(369, 30), 479);
        due(judged(370, 30), 480);
        due(judged(480, 30), 480);
        // The part alone is cut: less than one in a hundred is nothing, whichever way.
        due(judged(99, 1), 99);
        due(judged(100, 1), 101);
        due(judged(99, -1), 99);
        due(judged(100, -1), 99);
        due(judged(200, 0), 200);
    }

    private static void byMark(int mark, boolean by) {
        RingHand x = told("from 100;stay 1;ring inch;eye 10;wrist 90;mark " + mark + ";hand 50+mark*100;");
        due(x.tenth(0, 1), by ? 100 : 110);
        due(x.tenth(1, 1), by ? 100 : 110);
        due(x.tenth(1, 2), by ? 150 : 50);
    }

    @Sentence(promise = 9, says = "but what is no more than 6 INCHES from a MARK is by it, and judged rightly.")
    static void byTheChalk() {
        byMark(93, false);
        byMark(94, true);
        byMark(95, true);
        byMark(100, true);
        byMark(106, true);
        byMark(107, false);
        // Where he would be judged to be is not asked for.
        byMark(110, false);
    }

    @Sentence(promise = 9, says = "in tenth t less LAG (0, if that is below 0); 'mark' is of that place.")
    static void lateSight() {
        RingHand x = told("from 100;go 160 60;ring inch;lag 24;mark 100;hand mark*100;wrist 90;");
        for (int t : new int[] {0, 1, 23, 24}) {
            due(x.tenth(t, 1), 100);
        }
        due(x.tenth(25, 1), 101);
        due(x.tenth(60, 1), 136);
        // She is by the chalk till tenth 6, and is seen there till tenth 30.
        due(x.tenth(30, 2), 100);
        due(x.tenth(31, 2), 10);
        x.lag(0);
        due(x.tenth(0, 1), 100);
        due(x.tenth(1, 1), 101);
        due(x.tenth(60, 1), 160);
        due(x.tenth(6, 2), 100);
        due(x.tenth(7, 2), 10);
        x.lag(1);
        due(x.tenth(1, 1), 100);
        due(x.tenth(2, 1), 101);
    }

    @Sentence(promise = 9,
        says = "The HAND in force (HAND 0 at first; without one it is what he SEES) tells where the ring should be "
            + "(kept to 0 to 999)")
    static void whereTheRingShouldBe() {
        due(told("stay 1;ring 990;wrist 90;hand 998;").tenth(1, 2), 998);
        due(told("stay 1;ring 990;wrist 90;hand 999;").tenth(1, 2), 999);
        due(told("stay 1;ring 990;wrist 90;hand 1000;").tenth(1, 2), 999);
        due(told("stay 1;ring 990;wrist 90;hand 9999*9999;").tenth(1, 2), 999);
        due(told("stay 1;ring 9;wrist 90;hand 1;").tenth(1, 2), 1);
        due(told("stay 1;ring 9;wrist 90;hand 0;").tenth(1, 2), 0);
        due(told("stay 1;ring 9;wrist 90;hand 0-1;").tenth(1, 2), 0);
        due(told("stay 1;ring 9;wrist 90;hand 2048*2048*512;").tenth(1, 2), 0);
        due(told("stay 1;ring 9;hand 7;hand 8;").tenth(1, 2), 7);
        due(told("stay 1;ring 9;").tenth(1, 2), 9);
    }

    private static int turned(int to, int wrist) {
        return told("from 100;go " + to + " 1;ring inch;lag 0;wrist " + wrist + ";").tenth(1, 2);
    }

    @Sentence(promise = 9, says = "he turns it there, by no more than WRIST.")
    static void noFasterThanTheWrist() {
        due(turned(120, 21), 120);
        due(turned(120, 20), 120);
        due(turned(120, 19), 119);
        due(turned(80, 21), 80);
        due(turned(80, 20), 80);
        due(turned(80, 19), 81);
        due(turned(100, 1), 100);
        due(turned(101, 1), 101);
        due(turned(102, 1), 101);
        due(turned(98, 1), 99);
        due(turned(190, 90), 190);
        due(turned(191, 90), 190);
        due(turned(12, 90), 12);
    }

    @Sentence(promise = 9,
        says = "(In tenth 0 he SEES so, too, that 'was' may be told; of tenth 0 the ring doesn't ask.)")
    static void seenInTheFirstTenth() {
        RingHand x = told("from 100;go 200 1;stay 1;ring inch;eye 10;lag 0;wrist 90;hand was;"
            + "hand tenth+500*(tenth=0);");
        due(x.tenth(0, 1), 110);
        due(x.tenth(0, 2), 100);
        due(x.tenth(0, 3), 0);
        due(x.tenth(1, 2), 110);
        due(x.tenth(2, 2), 200);
        isTrue(x.hand(1));
        due(x.tenth(0, 2), 100);
        due(x.tenth(1, 2), 10);
        due(x.tenth(2, 2), 2);
        // 'ring' is where it is, before it is turned.
        RingHand y = told("from 100;stay 2;ring inch;wrist 90;hand ring+tenth;");
        due(y.tenth(1, 2), 101);
        due(y.tenth(2, 2), 103);
    }

    private static int sharp(int hole, int ring) {
        return told("stay 1;ring 500;wrist 90;hole " + hole + ";hand " + ring + ";").tenth(1, 4);
    }

    @Sentence(promise = 9, says = "It is SHARP, if OFF without sign is no more than HOLE; else SOFT.")
    static void sharpOrSoft() {
        due(sharp(3, 503), 1);
        due(sharp(3, 504), 0);
        due(sharp(3, 497), 1);
        due(sharp(3, 496), 0);
        due(sharp(1, 501), 1);
        due(sharp(1, 498), 0);
        due(sharp(60, 440), 1);
        due(sharp(60, 439), 0);
        due(sharp(60, 560), 1);
        due(sharp(60, 561), 0);
        RingHand x = told("stay 1;ring 500;wrist 90;hand 504;");
        due(x.tenth(1, 3), -4);
        due(told("stay 1;ring 500;wrist 90;hand 496;").tenth(1, 3), 4);
    }

    private static int shows(String rule, int ring) {
        return told("stay 1;ring 500;wrist 90;hand " + ring + ";" + rule).tenth(1, 5);
    }

    @Sentence(promise = 9, says = "It SHOWS, if it is SOFT and the rule SHOWS gives more than 0 (without one always).")
    static void showsOrNot() {
        due(shows("", 504), 1);
        due(shows("", 503), 0);
        due(shows("shows 1;", 504), 1);
        due(shows("shows 1;", 503), 0);
        due(shows("shows 0;", 504), 0);
        due(shows("shows 0-1;", 504), 0);
        due(shows("shows 9999;", 496), 1);
        due(shows("shows 2048*2048*512;", 496), 0);
        // OFF is without sign, HOLE as it is now, and INCHES are those of the face.
        due(shows("shows off-3;", 496), 1);
        due(shows("shows off-3;", 504), 1);
        due(shows("shows off-4;", 504), 0);
        due(shows("shows hole-2;", 504), 1);
        due(shows("shows hole-3;", 504), 0);
        due(shows("shows inch-119;", 504), 1);
        due(shows("shows inch-120;", 504), 0);
        RingHand his = told("from 60;stay 2;behind 30;him 1;wrist 1;shows inch=90;");
        due(his.tenth(1, 5), 1);
        his.behind(31);
        due(his.tenth(1, 5), 0);
    }

    // ---- promise 10

    @Sentence(promise = 10, says = "NoSuchElementException: another what.")
    static void noSuchOfAll() {
        RingHand x = told("stay 3;");
        due(x.all(0), 4);
        due(x.all(6), 0);
        for (int what : new int[] {-1, 7, LEAST_INT, GREATEST_INT}) {
            none(() -> x.all(what));
        }
    }

    private static void all(RingHand x, int... want) {
        for (int i = 0; i < want.length; i++) {
            due(x.all(i), want[i]);
        }
    }

    @Sentence(promise = 10,
        says = "0 how many are SHARP, 1 the most that OFF is, without sign, 2 the most SOFT ones side by side, 3 "
            + "the first SOFT one (NONE)")
    static void noneOrAllAreSoft() {
        all(told(""), 1, 0, 0, -1, 0, 0, 0);
        all(told(STAY_600), 601, 0, 0, -1, 0, 0, 0);
        // But for tenth 0, in which the ring is right, all are SOFT; the ring goes from 0 to 999.
        all(told(STAY_600 + "ring 0;wrist 90;hand 999;"), 1, 999, 600, 1, 0, 600, 999);
        all(told(STAY_600 + "ring 999;wrist 90;hand 0;"), 1, 999, 600, 1, 0, 600, 999);
        // Only the last tenth is SOFT.
        all(told(STAY_600 + "ring 50;hand 50+(tenth=600)*9;"), 600, 9, 1, 600, 0, 1, 9);
        // Of two rows of SOFT ones the longer; the last one ends with the SCENE.
        all(told("stay 9;ring 50;hand 50+(tenth<3 or 6<tenth)*9;"), 5, 9, 3, 1, 0, 5, 27);
        all(told("stay 9;ring 50;hand 50+(tenth<4 or 7<tenth)*9;"), 5, 9, 3, 1, 0, 5, 27);
    }

    @Sentence(promise = 10,
        says = "SWINGS: how often OFF is above 0 in a tenth, and below 0 in the next one in which it isn't 0, or "
            + "the other way round.")
    static void swings() {
        due(told("stay 4;ring 50;hand 50+(tenth=1)-(tenth=2);").all(4), 1);
        due(told("stay 4;ring 50;hand 50-(tenth=1)+(tenth=4);").all(4), 1);
        due(told("stay 4;ring 50;hand 50+(tenth=1)+(tenth=4);").all(4), 0);
        due(told("stay 4;ring 50;hand 50+(tenth=4);").all(4), 0);
        due(told("stay 4;ring 50;hand 50-(tenth=1)+(tenth=2)-(tenth=4);").all(4), 2);
        // In each tenth but 0 it is on the other side: 40 below 0, then 40 above.
        due(told(STAY_600 + "ring 500;wrist 80;hand 540-tenth/2*2*80+(tenth-1)*80;").all(4), 599);
    }

    @Sentence(promise = 10, says = "6 by how much the ring is turned, together.")
    static void turnedTogether() {
        due(told("").all(6), 0);
        due(told("stay 1;ring 500;wrist 90;hand 9999;").all(6), 90);
        // There and back again, by all that the wrist can.
        due(told(STAY_600 + "ring 500;wrist 90;hand 999*(tenth-tenth/2*2);").all(6), 54000);
    }
}
