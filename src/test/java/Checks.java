import java.lang.reflect.InvocationTargetException;
import java.lang.reflect.Method;
import java.nio.charset.StandardCharsets;
import java.util.ArrayList;
import java.util.Comparator;
import java.util.List;

/** What the tests by hand have in common: how an answer is compared, how a text is told. */
abstract class Checks {
    static final String NO_SUCH = "NoSuchElementException";
    static final String ILLEGAL = "IllegalArgumentException";
    static final String BLANKS = " ".repeat(20);
    static final int LEAST_INT = Integer.MIN_VALUE;
    static final int GREATEST_INT = Integer.MAX_VALUE;

    // The longest SCENE, in which she only stays.
    static final String STAY_600 = "stay 99;".repeat(6) + "stay 6;";
    // The hand turns in tenth 11, whenever she goes: late by d, 11 to 10 + d are SOFT, of 62 tenths.
    static final String BY_PLAN = "from 120;stay 10;go 60 1;stay 50;lag 0;wrist 90;hand 36+36*(10<tenth);";

    static int wrong = 0;
    static int promise = 0;
    static String sentence = "";

    interface Call {
        long now();
    }

    static void due(long got, long want) {
        due(Long.toString(got), Long.toString(want));
    }

    static void due(String got, String want) {
        if (!got.equals(want)) {
            wrong++;
            System.out.println((promise == 0 ? "" : "promise " + promise + ", ")
                + (sentence.isEmpty() ? "" : "(" + sentence + "), ") + where() + ": answered " + got + ", due is " + want);
        }
    }

    private static String where() {
        List<String> lines = new ArrayList<>();
        for (StackTraceElement e : new Throwable().getStackTrace()) {
            boolean ours = e.getFileName() != null && e.getModuleName() == null;
            if (ours && !e.getFileName().equals("Checks.java") && !e.getMethodName().startsWith("lambda")
                && !e.getMethodName().equals("main")) {
                lines.add(e.getFileName() + ":" + e.getLineNumber());
            }
        }
        return String.join(" < ", lines);
    }

    static void isTrue(boolean got) {
        due(got ? 1 : 0, 1);
    }

    /** What a call answers, or the name of what it throws. */
    static String answer(Call call) {
        try {
            return Long.toString(call.now());
        } catch (RuntimeException e) {
            return e.getClass().getSimpleName();
        }
    }

    /** The call throws NoSuchElementException. */
    static void none(Call call) {
        due(answer(call), NO_SUCH);
    }

    /** The call throws IllegalArgumentException. */
    static void bad(Call call) {
        due(answer(call), ILLEGAL);
    }

    /** The bytes come behind the tape, and blanks up to twenty: how many it has. */
    static int feedText(RingHand x, String text) {
        byte[] bytes = text.getBytes(StandardCharsets.ISO_8859_1);
        int[] n = new int[5];
        int answer = x.count(14);
        for (int i = 0; i < bytes.length; i += 20) {
            for (int k = 0; k < 20; k++) {
                n[k / 4] = n[k / 4] << 8 | (i + k < bytes.length ? bytes[i + k] & 255 : 32);
            }
            answer = x.feed(n[0], n[1], n[2], n[3], n[4]);
        }
        return answer;
    }

    static int tell(RingHand x, String text) {
        feedText(x, text);
        return x.scene(text.length());
    }

    static RingHand told(String text) {
        RingHand x = new RingHand();
        due(tell(x, text), 0);
        due(x.fault(), -1);
        return x;
    }

    static void fault(String text, int kind, int place) {
        RingHand x = new RingHand();
        due(tell(x, text), kind);
        due(x.fault(), place);
        due(x.count(15), 1);
    }

    /** What count() answers, from some what on. */
    static void counts(RingHand x, int from, int... want) {
        for (int i = 0; i < want.length; i++) {
            due(x.count(from + i), want[i]);
        }
    }

    /** Runs every test of a class that bears a sentence, in the order of their promises. */
    static void runSentences(Class<?> tests) {
        List<Method> all = new ArrayList<>();
        for (Method m : tests.getDeclaredMethods()) {
            if (m.isAnnotationPresent(Sentence.class)) {
                all.add(m);
            }
        }
        all.sort(Comparator.comparingInt((Method m) -> m.getAnnotation(Sentence.class).promise())
            .thenComparing(Method::getName));
        for (Method m : all) {
            promise = m.getAnnotation(Sentence.class).promise();
            sentence = m.getAnnotation(Sentence.class).says();
            try {
                m.invoke(null);
            } catch (InvocationTargetException e) {
                due(m.getName() + " threw " + e.getCause(), "nothing");
            } catch (IllegalAccessException e) {
                due(m.getName() + " can't be called", "nothing");
            }
        }
    }

    static void endWithCount() {
        if (wrong > 0) {
            System.out.println(wrong + " answers are not as due");
            System.exit(1);
        }
    }
}
