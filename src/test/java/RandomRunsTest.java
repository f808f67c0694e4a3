import java.util.Random;
import java.util.function.IntSupplier;

/** Random runs of calls, on RingHand and on PlainRingHand: each answer must be the same. */
public final class RandomRunsTest {
    private static final String[] VALUES = {"inch", "off hole inch", "seen was ring tenth mark"};

    private final Random random;
    private RingHand ours = new RingHand();
    private PlainRingHand plain = new PlainRingHand();
    private final StringBuilder log = new StringBuilder();
    private boolean wrong = false;

    private RandomRunsTest(long seed) {
        random = new Random(seed);
    }

    public static void main(String[] args) {
        int runs = args.length > 0 ? Integer.parseInt(args[0]) : 400;
        long from = args.length > 1 ? Long.parseLong(args[1]) : 1;
        int failed = 0;
        for (long seed = from; seed < from + runs; seed++) {
            RandomRunsTest run = new RandomRunsTest(seed);
            run.run(random(seed) ? 60 : 150);
            if (run.wrong && failed++ < 5) {
                System.out.println("seed " + seed + ":\n" + run.log);
            }
        }
        if (failed > 0) {
            System.out.println(failed + " random runs differ");
            System.exit(1);
        }
    }

    private static boolean random(long seed) {
        return (seed & 1) == 0;
    }

    private void run(int calls) {
        for (int i = 0; i < calls && !wrong; i++) {
            if (i == 0 && roll(8) > 0 || roll(25) == 0) {
                tell();
            } else {
                ask(roll(52));
            }
        }
    }

    private int roll(int n) {
        return random.nextInt(n);
    }

    private int among(int low, int high) {
        return low + roll(high - low + 1);
    }

    /** Mostly within low to high, sometimes at or just beyond the ends, seldom anywhere. */
    private int about(int low, int high) {
        switch (roll(16)) {
            case 0: return low - 1;
            case 1: return high + 1;
            case 2: return low;
            case 3: return high;
            case 4: return roll(6) == 0 ? random.nextInt() : among(low, high);
            default: return among(low, high);
        }
    }

    // ---- texts

    private String number(int low, int high) {
        if (roll(150) == 0) {
            return Integer.toString(roll(2) == 0 ? high + 1 : Math.max(0, low - 1));
        }
        return Integer.toString(among(low, high));
    }

    private String expr(String values, int depth) {
        StringBuilder s = new StringBuilder();
        int parts = 1 + (roll(3) == 0 ? roll(4) : roll(2));
        String[] joins = {" or ", " and ", "+", "-", "*", "/", "+", "-"};
        boolean tested = false;
        boolean fresh = true;
        for (int i = 0; i < parts; i++) {
            if (i > 0) {
                int join = roll(10);
                if (join >= 8 && !tested) {
                    s.append(join == 8 ? "<" : "=");
                    tested = true;
                    fresh = false;
                } else {
                    String op = joins[join % 8];
                    s.append(op);
                    fresh = op.startsWith(" ");
                    tested = fresh ? false : tested;
                }
            }
            if (fresh && roll(12) == 0) {
                for (int k = roll(roll(30) == 0 ? 8 : 3); k >= 0; k--) {
                    s.append("not ");
                }
            }
            s.append(part(values, depth));
        }
        return s.toString();
    }

    private String part(String values, int depth) {
        if (roll(5) == 0 && depth < 7) {
            return "(" + expr(values, depth + 1) + ")";
        }
        if (roll(3) == 0) {
            return Integer.toString(roll(3) == 0 ? roll(1200) : roll(12));
        }
        String[] names = values.split(" ");
        return names[roll(names.length)];
    }

    private String line() {
        switch (roll(17)) {
            case 0: case 1: case 2: return "go " + number(12, 480) + " " + number(1, roll(3) == 0 ? 99 : 25);
            case 3: return "stay " + number(1, roll(3) == 0 ? 99 : 12);
            case 4: return "behind " + number(0, 200);
            case 5: case 6: return (roll(2) == 0 ? "him " : "her ") + number(1, roll(4) == 0 ? 600 : 60);
            case 7: case 8: return "mark " + (roll(8) == 0 ? number(100, 103) : number(12, 480));
            case 9: return "hole " + number(1, roll(2) == 0 ? 10 : 60);
            case 10: return "lag " + number(0, 24);
            case 11: return "wrist " + number(1, 90);
            case 12: return "eye " + (roll(2) == 0 ? "- " : "") + number(0, 30);
            case 13: return roll(3) == 0 ? "ring " + expr(VALUES[0], 0) : "ring " + among(200, 9000) + "/inch";
            case 14: return "shows " + expr(VALUES[1], 0);
            default: return "hand " + (roll(3) == 0 ? hand() : expr(VALUES[2], 0));
        }
    }

    private String hand() {
        String[] some = {"seen", "seen+seen-was", "seen+(seen-was)*2", "(seen+ring)/2", "seen+(mark=0)*3",
            "ring+(seen-ring)/3", "seen*(tenth<20)+ring*(19<tenth)", "was"};
        return some[roll(some.length)];
    }

    private String text() {
        StringBuilder s = new StringBuilder();
        boolean clean = roll(5) > 0;
        if (roll(2) == 0) {
            s.append("from ").append(number(12, 480)).append(";");
        }
        for (int i = clean ? roll(5) : 0; i > 0; i--) {
            s.append("go ").append(number(12, 480)).append(" ").append(number(1, 30)).append(";");
        }
        java.util.Set<String> once = new java.util.HashSet<>();
        if (clean && roll(2) == 0) {
            s.append("eye ").append(roll(2) == 0 ? "-" : "").append(roll(31)).append(";");
            once.add("eye");
        }
        int last = 0;
        for (int i = roll(22); i >= 0; i--) {
            String line = line();
            String word = line.split(" ")[0];
            if (word.startsWith("h") && line.matches("h(im|er) .*") && clean) {
                last += among(1, 20);
                line = word + " " + Math.min(600, last);
            }
            if (clean && word.matches("behind|hole|lag|wrist|eye|ring|shows") && !once.add(word)) {
                continue;
            }
            s.append(line).append(";").append(roll(9) == 0 ? " \n" : "");
        }
        for (int i = roll(6) == 0 ? 1 + roll(2) : 0; i > 0; i--) {
            spoil(s);
        }
        return s.length() > 700 ? s.substring(0, s.lastIndexOf(";", 699) + 1) : s.toString();
    }

    private void spoil(StringBuilder s) {
        if (s.length() == 0) {
            return;
        }
        String[] bits = {"not ", " or ", "(", ")", ";", "-", "A", "\u00e9", "12345", " go ", " from ", "hole",
            "inch", "((((((", "((((((1))))))", " seen ", "<", "=", "/", "not not not not not not not ", "0", "9"};
        int at = roll(s.length());
        switch (roll(4)) {
            case 0: s.deleteCharAt(at); break;
            case 1: s.setLength(at); break;
            default: s.insert(at, bits[roll(bits.length)]);
        }
    }

    private void tell() {
        String text = text();
        byte[] bytes = text.getBytes(java.nio.charset.StandardCharsets.ISO_8859_1);
        int[] fed = new int[5];
        int before = plain.count(14);
        for (int i = 0; i < bytes.length; i += 20) {
            for (int k = 0; k < 20; k++) {
                int b = i + k < bytes.length ? bytes[i + k] & 255 : 32;
                fed[k / 4] = fed[k / 4] << 8 | b;
            }
            same("feed", () -> ours.feed(fed[0], fed[1], fed[2], fed[3], fed[4]),
                () -> plain.feed(fed[0], fed[1], fed[2], fed[3], fed[4]));
        }
        int n = before + bytes.length > plain.count(14) ? plain.count(14) : before + bytes.length;
        log.append("text ").append(text.replace("\n", "\\n")).append('\n');
        int m = roll(40) == 0 ? about(0, n) : n;
        same("scene " + m, () -> ours.scene(m), () -> plain.scene(m));
        same("fault", () -> ours.fault(), () -> plain.fault());
    }

    // ---- calls

    private void same(String call, IntSupplier a, IntSupplier b) {
        String got = answer(a);
        String due = answer(b);
        log.append(call).append(" -> ").append(got);
        if (!got.equals(due)) {
            log.append(", plainly ").append(due);
            wrong = true;
        }
        log.append('\n');
    }

    private static String answer(IntSupplier call) {
        try {
            return Integer.toString(call.getAsInt());
        } catch (RuntimeException e) {
            return e.getClass().getName();
        }
    }

    private int aTenth() {
        return about(0, plain.count(0));
    }

    private void ask(int which) {
        switch (which) {
            case 0: case 1: { int w = about(0, 17); same("count " + w, () -> ours.count(w), () -> plain.count(w)); break; }
            case 2: { int i = about(0, 5); same("mark " + i, () -> ours.mark(i), () -> plain.mark(i)); break; }
            case 3: { int t = aTenth(); int w = about(0, 1);
                same("inches " + t + " " + w, () -> ours.inches(t, w), () -> plain.inches(t, w)); break; }
            case 4: { int i = about(12, 480); same("turn " + i, () -> ours.turn(i), () -> plain.turn(i)); break; }
            case 5: case 6: case 7: case 8: { int t = aTenth(); int w = about(0, 5);
                same("tenth " + t + " " + w, () -> ours.tenth(t, w), () -> plain.tenth(t, w)); break; }
            case 9: case 10: case 11: { int w = about(0, 6); same("all " + w, () -> ours.all(w), () -> plain.all(w)); break; }
            case 12: { int h = about(1, 60); same("hole " + h, () -> ours.hole(h), () -> plain.hole(h)); break; }
            case 13: { int l = about(0, 24); same("lag " + l, () -> ours.lag(l), () -> plain.lag(l)); break; }
            case 14: { int w = about(1, 90); same("wrist " + w, () -> ours.wrist(w), () -> plain.wrist(w)); break; }
            case 15: { int e = about(-30, 30); same("eye " + e, () -> ours.eye(e), () -> plain.eye(e)); break; }
            case 16: case 17: { int h = about(-1, Math.max(0, plain.count(4) - 1));
                same("hand " + h, () -> ours.hand(h) ? 1 : 0, () -> plain.hand(h) ? 1 : 0); break; }
            case 18: { int b = about(0, 200); same("behind " + b, () -> ours.behind(b), () -> plain.behind(b)); break; }
            case 19: { int i = about(0, Math.max(0, plain.count(3) - 1)); int n = about(12, 480);
                same("chalk " + i + " " + n, () -> ours.chalk(i, n), () -> plain.chalk(i, n)); break; }
            case 20: case 21: same("undo", () -> ours.undo(), () -> plain.undo()); break;
            case 22: { int w = about(0, 3); same("best " + w, () -> ours.best(w), () -> plain.best(w)); break; }
            case 23: { int w = about(0, 1); same("foretell " + w, () -> ours.foretell(w), () -> plain.foretell(w)); break; }
            case 24: { int s = roll(3) == 0 ? about(0, 601) : roll(plain.count(0) + 2);
                same("holes " + s, () -> ours.holes(s), () -> plain.holes(s)); break; }
            case 25: { int m = about(0, roll(2) == 0 ? 99 : 2); int t = about(1, 99);
                same("light " + m + " " + t, () -> ours.light(m, t), () -> plain.light(m, t)); break; }
            case 26: same("both", () -> ours.both(), () -> plain.both()); break;
            case 27: { int m = about(0, roll(4) == 0 ? 3 : 2); same("marks " + m, () -> ours.marks(m), () -> plain.marks(m)); break; }
            case 28: case 29: { int i = about(0, 2); same("kept " + i, () -> ours.kept(i), () -> plain.kept(i)); break; }
            case 30: { int s = random.nextInt(); int n = about(0, 40); int l = about(1, 30); int w = about(0, 2);
                int g = roll(3) == 0 ? about(0, 601) : roll(plain.count(0) + 2);
                same("takes " + s + " " + n + " " + l + " " + g + " " + w, () -> ours.takes(s, n, l, g, w),
                    () -> plain.takes(s, n, l, g, w)); break; }
            default: askMore(which);
        }
    }

    private void askMore(int which) {
        switch (which) {
            case 31: case 32: { int t = aTenth(); boolean s = roll(2) == 0;
                same("see " + t + " " + s, () -> ours.see(t, s), () -> plain.see(t, s)); break; }
            case 33: { int w = about(0, 1); same("fits " + w, () -> ours.fits(w), () -> plain.fits(w)); break; }
            case 34: case 35: { int i = about(12, 480); same("book " + i, () -> ours.book(i), () -> plain.book(i)); break; }
            case 36: { int i = about(12, 480); int w = about(0, 1);
                same("next " + i + " " + w, () -> ours.next(i, w), () -> plain.next(i, w)); break; }
            case 37: { int w = about(0, 2); same("middle " + w, () -> ours.middle(w), () -> plain.middle(w)); break; }
            case 38: if (roll(3) == 0) { log.append("forget\n"); ours.forget(); plain.forget(); } break;
            case 39: case 40: { int i = about(-1, 3); int w = about(0, 1);
                same("runs " + i + " " + w, () -> ours.runs(i, w), () -> plain.runs(i, w)); break; }
            case 41: same("cure", () -> ours.cure(), () -> plain.cure()); break;
            case 42: same("wrists", () -> ours.wrists(), () -> plain.wrists()); break;
            case 43: same("learn", () -> ours.learn(), () -> plain.learn()); break;
            case 44: { int w = about(0, 1); same("shift " + w, () -> ours.shift(w), () -> plain.shift(w)); break; }
            case 45: { int w = about(0, 1); same("slip " + w, () -> ours.slip(w), () -> plain.slip(w)); break; }
            case 46: { int w = about(0, 1); same("lags " + w, () -> ours.lags(w), () -> plain.lags(w)); break; }
            case 47: { int r = about(0, roll(2) == 0 ? 360 : 999); int w = about(0, 1);
                same("depth " + r + " " + w, () -> ours.depth(r, w), () -> plain.depth(r, w)); break; }
            case 48: { int n = roll(3) == 0 ? about(1, 601) : about(1, 12);
                same("shots " + n, () -> ours.shots(n), () -> plain.shots(n)); break; }
            case 49: { int w = about(0, 1); same("quickest " + w, () -> ours.quickest(w), () -> plain.quickest(w)); break; }
            case 50: log.append("image\n"); ours.image(); plain.image(); break;
            default: same("restore", () -> ours.restore() ? 1 : 0, () -> plain.restore() ? 1 : 0);
        }
    }
}
