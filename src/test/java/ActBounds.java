/** The bounds of the settings, of ACTS and of the image (promises 11 to 18, 43 and 44). */
final class ActBounds extends Checks {
    interface Set {
        int to(RingHand x, int value);
    }

    /** A setting at both ends, and one beyond each: refused, it stays as it was, and so do the ACTS. */
    private static void setting(Set set, int what, int refused, int least, int most) {
        RingHand x = told("stay 1;mark 50;");
        int first = x.count(what);
        due(set.to(x, least), first);
        due(x.count(what), least);
        due(set.to(x, most), least);
        due(x.count(what), most);
        due(x.count(11), 2);
        int calls = 0;
        for (int value : new int[] {least - 1, most + 1, least - 100, most + 100, LEAST_INT, GREATEST_INT}) {
            due(set.to(x, value), refused);
            calls++;
            due(x.count(what), most);
            due(x.count(11), 2);
            due(x.count(16), calls);
        }
        due(set.to(x, least), most);
        due(x.undo(), 2);
        due(x.count(what), most);
        due(x.undo(), 1);
        due(x.count(what), least);
        due(x.undo(), 0);
        due(x.count(what), first);
        due(x.count(15) + x.count(17), 0);
    }

    // ---- promises 11 to 16

    @Sentence(promise = 11, says = "HOLE: as it was. NONE (STATUS 1): not 1 to 60.")
    static void hole() {
        setting((x, value) -> x.hole(value), 6, -1, 1, 60);
    }

    @Sentence(promise = 12, says = "LAG: as it was. NONE (STATUS 1): not 0 to 24.")
    static void lag() {
        setting((x, value) -> x.lag(value), 7, -1, 0, 24);
    }

    @Sentence(promise = 13, says = "WRIST: as it was. NONE (STATUS 1): not 1 to 90.")
    static void wrist() {
        setting((x, value) -> x.wrist(value), 8, -1, 1, 90);
    }

    @Sentence(promise = 14, says = "EYE: as it was. -99 (STATUS 1): not -30 to 30.")
    static void eye() {
        setting((x, value) -> x.eye(value), 9, -99, -30, 30);
        // What was may be NONE's number; only -99 is a refusal.
        RingHand x = told("eye -1;");
        due(x.eye(-1), -1);
        due(x.eye(0), -1);
        due(x.count(16), 0);
    }

    @Sentence(promise = 15, says = "The HAND in force (NONE: none): true. False (STATUS 1): there is no such one.")
    static void hand() {
        for (int hands = 0; hands <= 4; hands++) {
            RingHand x = told("hand 1;".repeat(hands) + "stay 1;");
            int first = hands == 0 ? -1 : 0;
            int calls = 0;
            for (int hand : new int[] {-2, hands, hands + 1, 4, LEAST_INT, GREATEST_INT}) {
                isTrue(!x.hand(hand));
                calls++;
                due(x.count(5), first);
                due(x.count(11), 0);
                due(x.count(16), calls);
            }
            isTrue(x.hand(hands - 1));
            due(x.count(5), hands - 1);
            isTrue(x.hand(-1));
            due(x.count(5), -1);
            due(x.undo(), 1);
            due(x.count(5), hands - 1);
            due(x.undo(), 0);
            due(x.count(5), first);
        }
    }

    @Sentence(promise = 16, says = "BEHIND: as it was. NONE (STATUS 1): not 0 to 200.")
    static void behind() {
        setting((x, value) -> x.behind(value), 10, -1, 0, 200);
        RingHand x = told("from 280;");
        x.behind(200);
        due(x.inches(0, 1), 480);
        x.behind(199);
        due(x.inches(0, 1), 479);
        x.behind(0);
        due(x.inches(0, 1), 280);
    }

    // ---- promise 17

    @Sentence(promise = 17, says = "A MARK is put: as it was. NONE (STATUS 1): not 12 to 480, there is one.")
    static void chalk() {
        RingHand x = told("mark 50;mark 60;");
        due(x.chalk(0, 12), 50);
        due(x.mark(0), 12);
        due(x.chalk(1, 480), 60);
        due(x.mark(1), 480);
        int calls = 0;
        for (int inches : new int[] {11, 481, 0, -50, LEAST_INT, GREATEST_INT, 12, 480}) {
            for (int i = 0; i <= 1; i++) {
                due(x.chalk(i, inches), -1);
                calls++;
                due(x.mark(0), 12);
                due(x.mark(1), 480);
                due(x.count(11), 2);
                due(x.count(16), calls);
            }
        }
        // Beside one there is room, and where one has been.
        due(x.chalk(1, 13), 480);
        due(x.chalk(0, 480), 12);
        due(x.chalk(1, 12), 13);
        due(x.count(3), 2);
    }

    @Sentence(promise = 17, says = "NoSuchElementException (ahead): no such MARK.")
    static void noSuchMark() {
        RingHand empty = told("stay 1;");
        none(() -> empty.chalk(0, 50));
        none(() -> empty.chalk(-1, 50));
        RingHand x = told("mark 50;mark 60;mark 70;mark 80;mark 90;mark 100;");
        for (int i : new int[] {-1, 6, 7, LEAST_INT, GREATEST_INT}) {
            none(() -> x.chalk(i, 70));
            none(() -> x.chalk(i, 77));
            none(() -> x.chalk(i, 11));
            none(() -> x.chalk(i, 481));
        }
        due(x.count(16), 0);
        due(x.count(11), 0);
        due(x.chalk(5, 110), 100);
        due(x.chalk(0, 40), 50);
        RingHand one = told("mark 50;");
        none(() -> one.chalk(1, 60));
        due(one.chalk(0, 60), 50);
    }

    // ---- promise 18

    @Sentence(promise = 18, says = "The last ACT is UNDONE: how many are left. NONE: there is none.")
    static void undo() {
        RingHand x = told("mark 50;hand 1;");
        due(x.undo(), -1);
        due(x.undo(), -1);
        x.hole(0);
        due(x.undo(), -1);
        x.hole(5);
        due(x.undo(), 0);
        due(x.count(6), 3);
        due(x.undo(), -1);
        due(x.count(11), 0);
        due(x.count(16), 1);
        // The walk is as it was, too.
        RingHand y = told("from 120;go 60 1;stay 3;lag 0;");
        due(y.all(0), 4);
        y.lag(3);
        due(y.all(0), 1);
        y.undo();
        due(y.all(0), 4);
    }

    @Sentence(promise = 18, says = "ACTS (at most 40 are kept, the latest ones)")
    static void mostActs() {
        RingHand forty = told("");
        for (int i = 1; i <= 40; i++) {
            due(forty.hole(i), i == 1 ? 3 : i - 1);
            due(forty.count(11), i);
        }
        for (int i = 39; i >= 0; i--) {
            due(forty.undo(), i);
            due(forty.count(6), i == 0 ? 3 : i);
        }
        due(forty.undo(), -1);
        // By one more the first of all is kept no more: its HOLE stays.
        RingHand x = told("");
        for (int i = 1; i <= 41; i++) {
            x.hole(i);
        }
        due(x.count(11), 40);
        for (int i = 39; i >= 0; i--) {
            due(x.undo(), i);
            due(x.count(6), i + 1);
        }
        due(x.undo(), -1);
        due(x.count(6), 1);
    }

    @Sentence(promise = 18, says = "They are UNDONE, the last one first.")
    static void allKindsOfActs() {
        RingHand x = told("mark 50;mark 60;hand 1;hand 2;");
        // Seven kinds by turns, 42 ACTS: those of HOLE and of LAG fall out first.
        for (int i = 1; i <= 6; i++) {
            x.hole(10 + i);
            x.lag(10 + i);
            x.wrist(10 + i);
            x.eye(10 + i);
            x.hand(i % 2);
            x.behind(10 + i);
            x.chalk(i % 2, 100 + i);
        }
        due(x.count(11), 40);
        counts(x, 5, 0, 16, 16, 16, 16, 16);
        // A refused call takes none of them away.
        due(x.hole(61), -1);
        due(x.chalk(0, 106), -1);
        due(x.count(11), 40);
        for (int i = 39; i >= 0; i--) {
            due(x.undo(), i);
        }
        due(x.undo(), -1);
        counts(x, 5, 0, 11, 11, 20, 0, 0);
        due(x.mark(0), 50);
        due(x.mark(1), 60);
    }

    @Sentence(promise = 18, says = "a MARK is put to other INCHES")
    static void marksUndone() {
        RingHand x = told("mark 50;mark 60;");
        due(x.chalk(0, 70), 50);
        due(x.chalk(1, 50), 60);
        due(x.chalk(0, 60), 70);
        due(x.chalk(0, 50), -1);
        due(x.undo(), 2);
        due(x.mark(0), 70);
        due(x.mark(1), 50);
        due(x.undo(), 1);
        due(x.mark(1), 60);
        due(x.undo(), 0);
        due(x.mark(0), 50);
        due(x.mark(1), 60);
        due(x.chalk(0, 60), -1);
    }

    // ---- promises 43 and 44

    @Sentence(promise = 43, says = "are kept as an image, in place of another one.")
    static void image() {
        RingHand x = told("stay 1;mark 50;hand 1;hand 2;");
        x.image();
        x.hole(9);
        x.image();
        x.hole(8);
        isTrue(x.restore());
        due(x.count(6), 9);
        due(x.count(11), 1);
        // The image is no part of what is set anew.
        x.forget();
        due(x.undo(), 0);
        isTrue(x.restore());
        due(x.count(6), 9);
        due(x.count(11), 1);
    }

    @Sentence(promise = 43,
        says = "HOLE, LAG, WRIST, EYE, the HAND in force, BEHIND, MARKS, ACTS, what is SEEN and the BOOK")
    static void fullImage() {
        // Late by d she is SOFT in tenth d + 1 alone: each of the 8 tenths that were SHARP shuts one d out.
        RingHand x = told("go 60 1;stay 30;lag 1;wrist 90;mark 12;mark 22;mark 32;mark 42;mark 52;mark 62;"
            + "hand seen;hand seen;");
        for (int i = 1; i <= 41; i++) {
            x.behind(i);
        }
        for (int i = 0; i < 8; i++) {
            x.see(3 + 2 * i, true);
        }
        for (int i = 0; i < 16; i++) {
            x.book(100 + i);
        }
        due(x.fits(0), 3 * 13);
        x.image();
        x.lag(9);
        x.wrist(9);
        x.eye(9);
        x.hand(1);
        x.behind(99);
        x.hole(9);
        for (int i = 0; i < 6; i++) {
            x.chalk(i, 200 + i);
        }
        x.forget();
        for (int i = 0; i < 8; i++) {
            x.see(25, false);
        }
        for (int i = 0; i < 16; i++) {
            x.book(480);
        }
        isTrue(x.restore());
        counts(x, 0, 31, 2, 0, 6, 2, 0, 3, 1, 90, 0, 41, 40, 8, 16);
        for (int i = 0; i < 6; i++) {
            due(x.mark(i), 12 + 10 * i);
        }
        due(x.fits(0), 3 * 13);
        due(x.middle(0), 215);
        due(x.middle(1), 2);
        // The rows are full again, and the ACTS the same.
        due(x.see(1, true), -1);
        due(x.book(50), -1);
        for (int i = 39; i >= 0; i--) {
            due(x.undo(), i);
            due(x.count(10), i + 1);
        }
        due(x.undo(), -1);
    }

    @Sentence(promise = 43, says = "`void image()`")
    static void emptyImage() {
        RingHand x = new RingHand();
        x.image();
        x.hole(9);
        x.see(0, true);
        x.book(50);
        isTrue(x.restore());
        due(x.count(6), 3);
        for (int what = 11; what <= 13; what++) {
            due(x.count(what), 0);
        }
        due(x.undo(), -1);
    }

    @Sentence(promise = 44, says = "They are as the image again: true. False: there is none.")
    static void restore() {
        RingHand x = told("stay 1;");
        isTrue(!x.restore());
        x.hole(9);
        isTrue(!x.restore());
        due(x.count(6), 9);
        due(x.count(11), 1);
        x.image();
        x.hole(8);
        isTrue(x.restore());
        isTrue(x.restore());
        due(x.count(6), 9);
        // The walk is as it was, too.
        RingHand y = told("from 120;go 60 1;stay 3;lag 0;");
        y.image();
        due(y.all(0), 4);
        y.lag(3);
        due(y.all(0), 1);
        isTrue(y.restore());
        due(y.all(0), 4);
        // A text with a FAULT leaves the image, a SCENE takes it away.
        due(tell(x, "?"), 1);
        isTrue(x.restore());
        due(x.scene(0), 0);
        isTrue(!x.restore());
        due(x.count(6), 3);
        due(x.count(16), 0);
    }

    @Sentence(promise = 44, says = "`boolean restore()`")
    static void whatTheImageHasNot() {
        RingHand x = told("stay 1;go 60 1;");
        x.image();
        x.marks(1);
        x.hole(0);
        x.book(0);
        due(tell(x, " ?"), 1);
        feedText(x, "stay 5;");
        int kept = x.kept(0);
        isTrue(x.restore());
        // STATUS, the tape, the FAULT's place and the row that is kept are no part of it.
        due(x.count(14), 20);
        for (int status = 15; status <= 17; status++) {
            due(x.count(status), 1);
        }
        due(x.fault(), 1);
        due(x.kept(0), kept);
    }
}
