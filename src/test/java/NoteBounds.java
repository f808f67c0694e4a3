/** The bounds of the film and of the book (Terms, ==== 4; promises 27 to 32 and 39). */
final class NoteBounds extends Checks {
    // She goes at once; seen so many tenths late, 1 to LAG are SOFT.
    private static final String AT_ONCE = "from 120;go 60 1;stay 30;wrist 90;";

    // ---- promise 27

    @Sentence(promise = 27, says = "SEEN: how much is. NONE (STATUS 2): there are 8.")
    static void mostSeen() {
        RingHand x = told("stay 5;hand 36;");
        for (int i = 1; i <= 8; i++) {
            due(x.see(i % 6, true), i);
        }
        due(x.fits(0), 42);
        // One more is refused, whatever it says.
        due(x.see(0, false), -1);
        due(x.count(12), 8);
        due(x.count(17), 1);
        due(x.see(5, true), -1);
        due(x.count(17), 2);
        due(x.fits(0), 42);
        x.forget();
        due(x.see(0, false), 1);
        due(x.fits(0), 0);
        due(x.count(17), 2);
        // Each of the 8 counts: late by d she is SOFT in tenth d + 1 alone, and each shuts one d out.
        RingHand y = told(AT_ONCE + "lag 1;");
        for (int i = 1; i <= 8; i++) {
            due(y.see(2 * i, true), i);
            due(y.fits(0), 21 - i);
        }
        due(y.see(17, true), -1);
        due(y.fits(0), 13);
    }

    @Sentence(promise = 27, says = "NoSuchElementException (ahead): no such tenth.")
    static void noSuchTenth() {
        RingHand x = told("stay 5;");
        for (int t : new int[] {-1, 6, LEAST_INT, GREATEST_INT}) {
            none(() -> x.see(t, true));
            none(() -> x.see(t, false));
        }
        due(x.count(12), 0);
        due(x.see(0, true), 1);
        due(x.see(5, true), 2);
        for (int i = 3; i <= 8; i++) {
            x.see(1, true);
        }
        // Ahead of the refusal, when there are 8.
        none(() -> x.see(6, true));
        none(() -> x.see(-1, true));
        due(x.count(17), 0);
        due(x.see(5, true), -1);
        due(x.count(17), 1);
        RingHand still = new RingHand();
        due(still.see(0, true), 1);
        none(() -> still.see(1, true));
    }

    // ---- promise 28

    @Sentence(promise = 28,
        says = "FITS: how many (what 0), the first (1; NONE: none). NoSuchElementException: another what.")
    static void noSuchOfFits() {
        RingHand x = told("stay 5;");
        due(x.fits(0), 21);
        due(x.fits(1), 0);
        for (int what : new int[] {-1, 2, LEAST_INT, GREATEST_INT}) {
            none(() -> x.fits(what));
        }
        x.see(0, false);
        due(x.fits(0), 0);
        due(x.fits(1), -1);
        none(() -> x.fits(2));
    }

    @Sentence(promise = 28,
        says = "HANDS (NONE first, then 0 on) and tenths (0 to 20) that she was late by which all that was SEEN is "
            + "so: how many")
    static void latestFits() {
        for (int hands = 0; hands <= 4; hands++) {
            due(told("hand seen;".repeat(hands)).fits(0), 21 * (hands + 1));
        }
        RingHand x = told(BY_PLAN);
        due(x.fits(0), 42);
        // SOFT in tenth 30: she was late by 20 or more.
        x.see(30, false);
        due(x.fits(0), 1);
        due(x.fits(1), 120);
        // SOFT in tenth 31: by 21 or more.
        x.see(31, false);
        due(x.fits(0), 0);
        due(x.fits(1), -1);
    }

    @Sentence(promise = 28, says = "the first (by HANDS, then tenths: 100 by HAND and 1, and tenths).")
    static void firstFit() {
        RingHand x = told(AT_ONCE + "lag 1;hand 36;hand 36;hand 36;hand seen;");
        due(x.fits(1), 0);
        // Without a HAND she is SOFT only in the tenth in which she goes; HAND 3 does as well.
        x.see(21, false);
        due(x.fits(1), 20);
        x.see(20, true);
        due(x.fits(0), 5);
        x.see(22, true);
        due(x.fits(0), 2);
        due(x.fits(1), 20);
        RingHand y = told(AT_ONCE + "lag 1;hand 36;hand 36;hand 36;hand seen+(tenth=30)*50;");
        y.see(30, false);
        y.see(29, true);
        y.see(20, true);
        due(y.fits(0), 20);
        due(y.fits(1), 400);
        y.see(1, true);
        due(y.fits(1), 401);
        y.see(19, true);
        y.see(18, true);
        y.see(21, false);
        due(y.fits(0), 1);
        due(y.fits(1), 420);
    }

    // ---- promise 29

    @Sentence(promise = 29, says = "The BOOK: how many are told. NONE (STATUS 2): there are 16, not 12 to 480.")
    static void bookBounds() {
        RingHand x = new RingHand();
        int calls = 0;
        for (int inches : new int[] {11, 481, 0, -12, LEAST_INT, GREATEST_INT}) {
            due(x.book(inches), -1);
            calls++;
            due(x.count(13), 0);
            due(x.count(17), calls);
        }
        due(x.middle(0), 0);
        due(x.book(12), 1);
        due(x.book(480), 2);
        for (int i = 3; i <= 16; i++) {
            due(x.book(100), i);
        }
        due(x.count(17), calls);
        due(x.book(100), -1);
        due(x.book(11), -1);
        due(x.count(17), calls + 2);
        due(x.count(13), 16);
        due(x.next(100, 0), 15);
        due(x.next(100, 1), 16);
        x.forget();
        due(x.book(480), 1);
    }

    // ---- promise 30

    @Sentence(promise = 30,
        says = "THE NEXT: the upper part (what 0), the lower one (1). NoSuchElementException: another what.")
    static void noSuchOfNext() {
        RingHand x = new RingHand();
        for (int what : new int[] {-1, 2, LEAST_INT, GREATEST_INT}) {
            none(() -> x.next(100, what));
            none(() -> x.next(-100, what));
        }
        x.book(100);
        due(x.next(100, 0), 1);
        due(x.next(100, 1), 1);
        none(() -> x.next(100, 2));
    }

    private static void next(RingHand x, int inches, int upper, int lower) {
        due(x.next(inches, 0), upper);
        due(x.next(inches, 1), lower);
    }

    @Sentence(promise = 30,
        says = "THE NEXT: how likely it is that it is no more than so many INCHES: of those told, as a fraction in "
            + "lowest terms (0 by 1 without any)")
    static void oddsOfTheNext() {
        RingHand x = new RingHand();
        next(x, 480, 0, 1);
        next(x, GREATEST_INT, 0, 1);
        x.book(100);
        next(x, 99, 0, 1);
        next(x, 100, 1, 1);
        next(x, 101, 1, 1);
        x.book(100);
        x.book(200);
        x.book(300);
        // No INCHES need be asked for.
        next(x, LEAST_INT, 0, 1);
        next(x, -1, 0, 1);
        next(x, 99, 0, 1);
        next(x, 100, 1, 2);
        next(x, 199, 1, 2);
        next(x, 200, 3, 4);
        next(x, 300, 1, 1);
        next(x, GREATEST_INT, 1, 1);
        for (int i = 0; i < 12; i++) {
            x.book(480);
        }
        next(x, 100, 1, 8);
        next(x, 200, 3, 16);
        next(x, 479, 1, 4);
        next(x, 480, 1, 1);
    }

    // ---- promise 31

    @Sentence(promise = 31,
        says = "THE MIDDLE: the upper part (what 0; 0 without any), the lower one (1; 1 without any); THE SPAN (2; "
            + "0 without any).")
    static void middle() {
        RingHand x = new RingHand();
        middle(x, 0, 1, 0);
        x.book(480);
        middle(x, 480, 1, 0);
        x.book(12);
        middle(x, 246, 1, 468);
        x.book(13);
        middle(x, 505, 3, 468);
        x.forget();
        middle(x, 0, 1, 0);
        for (int i = 0; i < 16; i++) {
            x.book(480);
        }
        middle(x, 480, 1, 0);
        x.book(12);
        middle(x, 480, 1, 0);
        RingHand y = new RingHand();
        for (int i = 0; i < 15; i++) {
            y.book(12);
        }
        y.book(13);
        middle(y, 193, 16, 1);
    }

    private static void middle(RingHand x, int upper, int lower, int span) {
        due(x.middle(0), upper);
        due(x.middle(1), lower);
        due(x.middle(2), span);
    }

    @Sentence(promise = 31, says = "NoSuchElementException: another what.")
    static void noSuchOfMiddle() {
        RingHand x = new RingHand();
        for (int what : new int[] {-1, 3, LEAST_INT, GREATEST_INT}) {
            none(() -> x.middle(what));
        }
        x.book(50);
        none(() -> x.middle(3));
        due(x.middle(2), 0);
    }

    // ---- promise 32

    @Sentence(promise = 32, says = "What is SEEN and the BOOK are forgotten.")
    static void forget() {
        RingHand x = told("stay 5;");
        x.forget();
        due(x.count(12) + x.count(13), 0);
        for (int i = 0; i < 9; i++) {
            x.see(0, false);
        }
        for (int i = 0; i < 17; i++) {
            x.book(50);
        }
        x.hole(9);
        due(x.fits(0), 0);
        x.forget();
        due(x.count(12) + x.count(13), 0);
        due(x.fits(0), 21);
        middle(x, 0, 1, 0);
        // STATUS and the ACTS are no part of it.
        due(x.count(17), 2);
        due(x.count(11), 1);
        due(x.see(0, true), 1);
        due(x.book(60), 1);
        middle(x, 60, 1, 0);
        next(x, 59, 0, 1);
        next(x, 60, 1, 1);
        due(x.book(61), 2);
        middle(x, 121, 2, 1);
        next(x, 60, 1, 2);
        due(x.fits(0), 21);
    }

    // ---- promise 39

    @Sentence(promise = 39,
        says = "LAGS: the least (what 0), the greatest (1); NONE: none. NoSuchElementException: another what.")
    static void noSuchOfLags() {
        RingHand x = told(AT_ONCE);
        for (int what : new int[] {-1, 2, LEAST_INT, GREATEST_INT}) {
            none(() -> x.lags(what));
        }
        lags(x, 0, 24);
        x.see(0, false);
        lags(x, -1, -1);
        none(() -> x.lags(2));
    }

    private static void lags(RingHand x, int least, int greatest) {
        due(x.lags(0), least);
        due(x.lags(1), greatest);
    }

    @Sentence(promise = 39,
        says = "LAGS: by which LAG (0 to 24) all that is SEEN of the FILM is so: the least, the greatest; none.")
    static void lagsOfFilm() {
        RingHand x = told(AT_ONCE);
        lags(x, 0, 24);
        x.see(24, false);
        lags(x, 24, 24);
        x.see(25, false);
        lags(x, -1, -1);
        x.forget();
        x.see(1, true);
        lags(x, 0, 0);
        x.see(1, false);
        lags(x, -1, -1);
        x.forget();
        x.see(25, true);
        lags(x, 0, 24);
        x.see(24, true);
        lags(x, 0, 23);
        x.see(1, false);
        lags(x, 1, 23);
        due(x.count(7), 2);
    }
}
