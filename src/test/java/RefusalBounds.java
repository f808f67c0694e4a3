import java.lang.reflect.InvocationTargetException;
import java.lang.reflect.Method;
import java.lang.reflect.Modifier;
import java.util.ArrayList;
import java.util.List;

/** After a call that is refused or throws, later calls answer as if it had not been made. */
final class RefusalBounds extends Checks {
    private static final int MOST_CALLS = 512;
    private static final int NO_STATUS = -1;

    interface On {
        long of(RingHand x);
    }

    /** How two like objects are made, again and again. */
    interface Made {
        RingHand now();
    }

    /** Something of everything, forty bytes on the tape, and the walk asked for. */
    private static RingHand some() {
        RingHand x = told("from 100;go 200 9;stay 3;go 60 7;behind 40;him 5;her 12;mark 100;mark 200;mark 77;"
            + "eye 12;lag 1;hand seen;hand seen+seen-was;shows off-hole;");
        x.hole(5);
        x.wrist(30);
        x.see(2, true);
        x.book(100);
        x.book(61);
        x.marks(2);
        x.image();
        x.eye(-5);
        x.hand(1);
        x.chalk(2, 78);
        x.behind(41);
        x.see(4, false);
        x.book(99);
        x.hole(0);
        x.book(0);
        tell(x, " lag");
        feedText(x, "from 77;stay 5;hand seen;lag 0;");
        x.all(0);
        return x;
    }

    /** Every row as full as it may be. */
    private static RingHand full() {
        RingHand x = told("go 60 50;go 90 50;stay 50;".repeat(4) + "him 1;her 9;him 19;her 99;him 199;her 299;"
            + "mark 12;mark 60;mark 90;mark 200;mark 300;mark 480;hand seen;hand was;hand ring;hand 40;");
        for (int i = 1; i <= 45; i++) {
            x.behind(100 + i);
        }
        for (int i = 0; i < 8; i++) {
            x.see(75 * i, i % 2 == 0);
        }
        for (int i = 0; i < 16; i++) {
            x.book(100 + i);
        }
        x.marks(1);
        x.image();
        for (int i = 0; i < 35; i++) {
            feedText(x, i == 0 ? "from 77;stay 5;" : BLANKS);
        }
        x.all(0);
        return x;
    }

    private static final Made[] STATES = {RingHand::new, RefusalBounds::some, RefusalBounds::full};

    // ---- what an object answers

    private static void ask(List<String> answers, String name, Call call) {
        answers.add(name + " = " + answer(call));
    }

    private static void askSettings(List<String> answers, RingHand x) {
        for (int what = 5; what <= 13; what++) {
            int w = what;
            ask(answers, "count " + w, () -> x.count(w));
        }
        for (int i = 0; i < 6; i++) {
            int mark = i;
            ask(answers, "mark " + mark, () -> x.mark(mark));
        }
        ask(answers, "middle", () -> x.middle(0));
        ask(answers, "fits", () -> x.fits(0));
        ask(answers, "lags", () -> x.lags(1));
        ask(answers, "turned", () -> x.all(6));
    }

    private static void askWalk(List<String> answers, RingHand x) {
        int last = x.count(0);
        for (int tenth : new int[] {0, last / 2, last}) {
            ask(answers, "her " + tenth, () -> x.inches(tenth, 0));
            ask(answers, "him " + tenth, () -> x.inches(tenth, 1));
            for (int what = 0; what <= 5; what++) {
                int w = what;
                ask(answers, "tenth " + tenth + " " + w, () -> x.tenth(tenth, w));
            }
        }
        for (int what = 0; what <= 6; what++) {
            int w = what;
            ask(answers, "all " + w, () -> x.all(w));
        }
    }

    private static void askRest(List<String> answers, RingHand x) {
        for (int what = 0; what <= 1; what++) {
            int w = what;
            ask(answers, "best " + w, () -> x.best(w));
            ask(answers, "safest " + w, () -> x.best(2 + w));
            ask(answers, "foretell " + w, () -> x.foretell(w));
            ask(answers, "takes " + w, () -> x.takes(7, 3, 9, 5, w));
            ask(answers, "fits " + w, () -> x.fits(w));
            ask(answers, "next " + w, () -> x.next(100, w));
            ask(answers, "middle " + w, () -> x.middle(w));
            ask(answers, "runs " + w, () -> x.runs(0, w));
            ask(answers, "shift " + w, () -> x.shift(w));
            ask(answers, "slip " + w, () -> x.slip(w));
            ask(answers, "lags " + w, () -> x.lags(w));
            ask(answers, "depth " + w, () -> x.depth(40, w));
            ask(answers, "quickest " + w, () -> x.quickest(w));
        }
        for (int i = 0; i <= 2; i++) {
            int row = i;
            ask(answers, "kept " + row, () -> x.kept(row));
        }
        ask(answers, "holes", () -> x.holes(5));
        ask(answers, "light", () -> x.light(1, 9));
        ask(answers, "both", () -> x.both());
        ask(answers, "span", () -> x.middle(2));
        ask(answers, "runs", () -> x.runs(-1, 0));
        ask(answers, "cure", () -> x.cure());
        ask(answers, "wrists", () -> x.wrists());
        ask(answers, "learn", () -> x.learn());
        ask(answers, "shots", () -> x.shots(2));
        ask(answers, "turn", () -> x.turn(77));
    }

    private static void askUndone(List<String> answers, RingHand x) {
        for (int i = 0; i < 41; i++) {
            ask(answers, "undo " + i, () -> x.undo());
            ask(answers, "behind " + i, () -> x.count(10));
        }
        askSettings(answers, x);
    }

    /** All that can be asked, then all is undone, restored and undone again, at last the tape is told. */
    private static List<String> answers(RingHand x, boolean tape) {
        List<String> answers = new ArrayList<>();
        askSettings(answers, x);
        askWalk(answers, x);
        askRest(answers, x);
        askUndone(answers, x);
        ask(answers, "restore", () -> x.restore() ? 1 : 0);
        askSettings(answers, x);
        askUndone(answers, x);
        if (tape) {
            ask(answers, "fault", () -> x.fault());
            ask(answers, "tape", () -> x.count(14));
            ask(answers, "scene", () -> x.scene(x.count(14)));
            ask(answers, "last", () -> x.count(0));
        }
        // The longest way to a state has some 170 calls.
        isTrue(answers.size() < MOST_CALLS - 170);
        return answers;
    }

    /** Makes the call on one of two like objects, and compares them, but for the STATUS that it tells. */
    private static void asIfNotMade(Made made, On call, String want, int status, boolean tape) {
        RingHand x = made.now();
        RingHand y = made.now();
        due(answer(() -> call.of(x)), want);
        for (int i = 0; i <= 2; i++) {
            due(x.count(15 + i), y.count(15 + i) + (i == status ? 1 : 0));
        }
        List<String> got = answers(x, tape);
        List<String> due = answers(y, tape);
        for (int i = 0; i < due.size(); i++) {
            due(got.get(i), due.get(i));
        }
    }

    private static void throwing(String want, On call) {
        for (Made made : STATES) {
            asIfNotMade(made, call, want, NO_STATUS, true);
        }
    }

    private static void refused(String want, int status, On call) {
        for (Made made : STATES) {
            asIfNotMade(made, call, want, status, true);
        }
    }

    // ---- the calls, promise by promise

    @Sentence(promise = 2, says = "NONE, and none come")
    static void feed() {
        asIfNotMade(RefusalBounds::full, x -> feedText(x, "?".repeat(20)), "-1", NO_STATUS, true);
    }

    @Sentence(promise = 3, says = "the tape has not so many, n below 0 (nothing changes)")
    static void scene() {
        throwing(ILLEGAL, x -> x.scene(-1));
        throwing(ILLEGAL, x -> x.scene(x.count(14) + 1));
    }

    @Sentence(promise = 3, says = "the FAULT (all stays)")
    static void sceneWithFault() {
        // The tape is empty then, and the FAULT has a place; the rest is compared.
        asIfNotMade(RefusalBounds::some, x -> x.scene(5), "1", 0, false);
        asIfNotMade(RefusalBounds::full, x -> x.scene(5), "1", 0, false);
        String all = "from 300;stay 9;go 33 9;mark 33;hand 5;ring 5;shows 5;hole 9;lag 9;wrist 9;eye 9;behind 9;"
            + "him 9;?";
        asIfNotMade(RingHand::new, x -> tell(x, all), "1", 0, false);
        asIfNotMade(() -> emptied(some()), x -> tell(x, all), "1", 0, false);
        asIfNotMade(() -> emptied(full()), x -> tell(x, all), "1", 0, false);
    }

    /** The tape is empty behind a text with a FAULT. */
    private static RingHand emptied(RingHand x) {
        x.scene(3);
        return x;
    }

    @Sentence(promise = 5, says = "NoSuchElementException: another what.")
    static void count() {
        throwing(NO_SUCH, x -> x.count(-1));
        throwing(NO_SUCH, x -> x.count(18));
    }

    @Sentence(promise = 6, says = "NoSuchElementException: there is none.")
    static void mark() {
        throwing(NO_SUCH, x -> x.mark(-1));
        throwing(NO_SUCH, x -> x.mark(x.count(3)));
    }

    @Sentence(promise = 7, says = "no such tenth of the SCENE (as everywhere), another who")
    static void inches() {
        throwing(NO_SUCH, x -> x.inches(-1, 0));
        throwing(NO_SUCH, x -> x.inches(x.count(0) + 1, 1));
        throwing(NO_SUCH, x -> x.inches(0, 2));
    }

    @Sentence(promise = 8, says = "IllegalArgumentException: not 12 to 480.")
    static void turn() {
        throwing(ILLEGAL, x -> x.turn(11));
        throwing(ILLEGAL, x -> x.turn(481));
    }

    @Sentence(promise = 9, says = "NoSuchElementException: also another what.")
    static void tenth() {
        throwing(NO_SUCH, x -> x.tenth(-1, 1));
        throwing(NO_SUCH, x -> x.tenth(x.count(0) + 1, 2));
        throwing(NO_SUCH, x -> x.tenth(0, 6));
    }

    @Sentence(promise = 10, says = "NoSuchElementException: another what.")
    static void all() {
        throwing(NO_SUCH, x -> x.all(-1));
        throwing(NO_SUCH, x -> x.all(7));
    }

    @Sentence(promise = 11, says = "NONE (STATUS 1): not 1 to 60.")
    static void hole() {
        refused("-1", 1, x -> x.hole(0));
        refused("-1", 1, x -> x.hole(61));
    }

    @Sentence(promise = 12, says = "NONE (STATUS 1): not 0 to 24.")
    static void lag() {
        refused("-1", 1, x -> x.lag(-1));
        refused("-1", 1, x -> x.lag(25));
    }

    @Sentence(promise = 13, says = "NONE (STATUS 1): not 1 to 90.")
    static void wrist() {
        refused("-1", 1, x -> x.wrist(0));
        refused("-1", 1, x -> x.wrist(91));
    }

    @Sentence(promise = 14, says = "-99 (STATUS 1): not -30 to 30.")
    static void eye() {
        refused("-99", 1, x -> x.eye(-31));
        refused("-99", 1, x -> x.eye(31));
    }

    @Sentence(promise = 15, says = "False (STATUS 1): there is no such one.")
    static void hand() {
        refused("0", 1, x -> x.hand(-2) ? 1 : 0);
        refused("0", 1, x -> x.hand(x.count(4)) ? 1 : 0);
    }

    @Sentence(promise = 16, says = "NONE (STATUS 1): not 0 to 200.")
    static void behind() {
        refused("-1", 1, x -> x.behind(-1));
        refused("-1", 1, x -> x.behind(201));
    }

    @Sentence(promise = 17,
        says = "NONE (STATUS 1): not 12 to 480, there is one. NoSuchElementException (ahead): no such MARK.")
    static void chalk() {
        throwing(NO_SUCH, x -> x.chalk(-1, 50));
        throwing(NO_SUCH, x -> x.chalk(x.count(3), 50));
        throwing(NO_SUCH, x -> x.chalk(x.count(3), 481));
        for (int i = 1; i <= 2; i++) {
            asIfNotMade(STATES[i], x -> x.chalk(0, 11), "-1", 1, true);
            asIfNotMade(STATES[i], x -> x.chalk(0, 481), "-1", 1, true);
            asIfNotMade(STATES[i], x -> x.chalk(0, x.mark(0)), "-1", 1, true);
            asIfNotMade(STATES[i], x -> x.chalk(0, x.mark(2)), "-1", 1, true);
        }
    }

    @Sentence(promise = 18, says = "NONE: there is none.")
    static void undo() {
        asIfNotMade(RingHand::new, x -> x.undo(), "-1", NO_STATUS, true);
        asIfNotMade(() -> told("stay 5;mark 50;"), x -> x.undo(), "-1", NO_STATUS, true);
    }

    @Sentence(promise = 19, says = "NoSuchElementException: another what.")
    static void best() {
        throwing(NO_SUCH, x -> x.best(-1));
        throwing(NO_SUCH, x -> x.best(4));
    }

    @Sentence(promise = 20, says = "NoSuchElementException: another what.")
    static void foretell() {
        throwing(NO_SUCH, x -> x.foretell(2));
    }

    @Sentence(promise = 21, says = "IllegalArgumentException: not 0 to 601.")
    static void holes() {
        throwing(ILLEGAL, x -> x.holes(-1));
        throwing(ILLEGAL, x -> x.holes(602));
    }

    @Sentence(promise = 22, says = "IllegalArgumentException: minutes.")
    static void light() {
        throwing(ILLEGAL, x -> x.light(-1, 5));
        throwing(ILLEGAL, x -> x.light(100, 5));
        throwing(ILLEGAL, x -> x.light(5, 0));
        throwing(ILLEGAL, x -> x.light(5, 100));
    }

    @Sentence(promise = 24, says = "NONE: none (what is kept stays). IllegalArgumentException: not 0 to 3.")
    static void marks() {
        throwing(ILLEGAL, x -> x.marks(-1));
        throwing(ILLEGAL, x -> x.marks(4));
        asIfNotMade(RingHand::new, x -> x.marks(2), "-1", NO_STATUS, true);
        asIfNotMade(() -> {
            RingHand x = told("go 60 9;");
            x.marks(2);
            return x;
        }, x -> x.marks(3), "-1", NO_STATUS, true);
    }

    @Sentence(promise = 25, says = "NoSuchElementException: there is none, none is kept.")
    static void kept() {
        throwing(NO_SUCH, x -> x.kept(-1));
        throwing(NO_SUCH, x -> x.kept(3));
    }

    @Sentence(promise = 26,
        says = "NoSuchElementException: another what. IllegalArgumentException (behind that): n, late, good.")
    static void takes() {
        throwing(NO_SUCH, x -> x.takes(1, 1, 1, 1, 3));
        throwing(ILLEGAL, x -> x.takes(1, 41, 1, 1, 0));
        throwing(ILLEGAL, x -> x.takes(1, 1, 0, 1, 0));
        throwing(ILLEGAL, x -> x.takes(1, 1, 31, 1, 0));
        throwing(ILLEGAL, x -> x.takes(1, 1, 1, 602, 0));
    }

    @Sentence(promise = 27, says = "NONE (STATUS 2): there are 8. NoSuchElementException (ahead): no such tenth.")
    static void see() {
        throwing(NO_SUCH, x -> x.see(-1, true));
        throwing(NO_SUCH, x -> x.see(x.count(0) + 1, false));
        asIfNotMade(RefusalBounds::full, x -> x.see(1, true), "-1", 2, true);
        asIfNotMade(RefusalBounds::full, x -> x.see(1, false), "-1", 2, true);
    }

    @Sentence(promise = 28, says = "NoSuchElementException: another what.")
    static void fits() {
        throwing(NO_SUCH, x -> x.fits(2));
    }

    @Sentence(promise = 29, says = "NONE (STATUS 2): there are 16, not 12 to 480.")
    static void book() {
        refused("-1", 2, x -> x.book(11));
        refused("-1", 2, x -> x.book(481));
        asIfNotMade(RefusalBounds::full, x -> x.book(480), "-1", 2, true);
    }

    @Sentence(promise = 30, says = "NoSuchElementException: another what.")
    static void next() {
        throwing(NO_SUCH, x -> x.next(50, 2));
    }

    @Sentence(promise = 31, says = "NoSuchElementException: another what.")
    static void middle() {
        throwing(NO_SUCH, x -> x.middle(3));
    }

    @Sentence(promise = 33, says = "NoSuchElementException: there is none, another what (of i NONE, too).")
    static void runs() {
        throwing(NO_SUCH, x -> x.runs(x.runs(-1, 0), 0));
        throwing(NO_SUCH, x -> x.runs(-2, 0));
        throwing(NO_SUCH, x -> x.runs(-1, 2));
    }

    @Sentence(promise = 37, says = "NoSuchElementException: another what.")
    static void shift() {
        throwing(NO_SUCH, x -> x.shift(2));
    }

    @Sentence(promise = 38, says = "NoSuchElementException: another what.")
    static void slip() {
        throwing(NO_SUCH, x -> x.slip(2));
    }

    @Sentence(promise = 39, says = "NoSuchElementException: another what.")
    static void lags() {
        throwing(NO_SUCH, x -> x.lags(2));
    }

    @Sentence(promise = 40,
        says = "NoSuchElementException: another what. IllegalArgumentException (behind that): not 0 to 999.")
    static void depth() {
        throwing(NO_SUCH, x -> x.depth(1, 2));
        throwing(ILLEGAL, x -> x.depth(-1, 0));
        throwing(ILLEGAL, x -> x.depth(1000, 0));
    }

    @Sentence(promise = 41, says = "IllegalArgumentException: not 1 to 601.")
    static void shots() {
        throwing(ILLEGAL, x -> x.shots(0));
        throwing(ILLEGAL, x -> x.shots(602));
    }

    @Sentence(promise = 42, says = "NoSuchElementException: another what.")
    static void quickest() {
        throwing(NO_SUCH, x -> x.quickest(2));
    }

    @Sentence(promise = 44, says = "False: there is none.")
    static void restore() {
        asIfNotMade(RingHand::new, x -> x.restore() ? 1 : 0, "0", NO_STATUS, true);
        asIfNotMade(() -> {
            RingHand x = told("stay 5;mark 50;");
            x.hole(9);
            x.see(1, true);
            x.book(50);
            return x;
        }, x -> x.restore() ? 1 : 0, "0", NO_STATUS, true);
    }

    // ---- questions

    private static void asked(On question) {
        for (Made made : STATES) {
            asIfNotMade(made, question, answer(() -> question.of(made.now())), NO_STATUS, true);
        }
    }

    @Sentence(promise = 10, says = "Nothing is promised beyond the answers and state changes described above")
    static void questionsChangeNothing() {
        asked(x -> x.tenth(0, 5));
        asked(x -> x.all(5));
        asked(x -> x.best(0));
        asked(x -> x.foretell(0));
        asked(x -> x.holes(601));
        asked(x -> x.light(0, 1));
        asked(x -> x.both());
        asked(x -> x.takes(1, 40, 30, 0, 1));
        asked(x -> x.fits(0));
        asked(x -> x.next(480, 1));
        asked(x -> x.middle(2));
        asked(x -> x.runs(-1, 0));
        asked(x -> x.cure());
        asked(x -> x.wrists());
        asked(x -> x.learn());
        asked(x -> x.shift(0));
        asked(x -> x.slip(0));
        asked(x -> x.lags(1));
        asked(x -> x.depth(40, 1));
        asked(x -> x.shots(1));
        asked(x -> x.quickest(0));
    }

    @Sentence(promise = 24, says = "CHALK: how many are SHARP; the row is kept")
    static void chalkIsNotPut() {
        for (Made made : STATES) {
            // The same row is kept behind it.
            Made kept = () -> {
                RingHand x = made.now();
                x.marks(1);
                return x;
            };
            asIfNotMade(kept, x -> x.marks(1), answer(() -> kept.now().marks(1)), NO_STATUS, true);
        }
    }

    // ---- nothing else is thrown

    private static final int[] INTS = {LEAST_INT, -1, 0, 1, 12, 600, 601, GREATEST_INT};

    @Sentence(promise = 1, says = "public final class RingHand {")
    static void nothingElseIsThrown() throws Exception {
        for (Made made : STATES) {
            for (Method m : RingHand.class.getDeclaredMethods()) {
                if (Modifier.isPublic(m.getModifiers())) {
                    callWithAll(made, m, new Object[m.getParameterCount()], 0);
                }
            }
        }
    }

    private static void callWithAll(Made made, Method m, Object[] arguments, int from) throws Exception {
        if (from == arguments.length) {
            callOnce(made, m, arguments);
            return;
        }
        boolean flag = m.getParameterTypes()[from] == boolean.class;
        // Five numbers all at once would be too many calls: the later ones come in three sizes.
        for (int i = 0; i < (flag ? 2 : INTS.length); i += from > 1 && !flag ? 3 : 1) {
            arguments[from] = flag ? (Object) (i == 1) : (Object) INTS[i];
            callWithAll(made, m, arguments, from + 1);
        }
    }

    private static void callOnce(Made made, Method m, Object[] arguments) throws Exception {
        RingHand x = made.now();
        try {
            m.invoke(x, arguments);
        } catch (InvocationTargetException e) {
            boolean told = false;
            for (Class<?> c : m.getExceptionTypes()) {
                told |= c == e.getCause().getClass();
            }
            due(told ? "" : m.getName() + List.of(arguments) + " threw " + e.getCause(), "");
        }
    }
}
