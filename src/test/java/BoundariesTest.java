import java.lang.reflect.Method;
import java.nio.file.Files;
import java.nio.file.Path;

/** Each sentence of the document that names a boundary case, by a test of its own. */
public final class BoundariesTest extends Checks {
    private static final Class<?>[] GROUPS = {TextBounds.class, WalkBounds.class, ActBounds.class, NoteBounds.class,
        AskBounds.class, RefusalBounds.class};
    private static final int PROMISES = 44;

    public static void main(String[] args) throws Exception {
        for (Class<?> group : GROUPS) {
            runSentences(group);
        }
        quotes();
        endWithCount();
    }

    /** Each promise has a test, and what a test quotes stands in the document. */
    private static void quotes() throws Exception {
        sentence = "";
        Path doc = Path.of("../shared/DOC.md");
        String text = Files.exists(doc) ? plain(Files.readString(doc)) : null;
        boolean[] tested = new boolean[PROMISES + 1];
        for (Class<?> group : GROUPS) {
            for (Method m : group.getDeclaredMethods()) {
                Sentence s = m.getAnnotation(Sentence.class);
                if (s != null) {
                    promise = s.promise();
                    tested[promise] = true;
                    due(text == null || text.contains(plain(s.says())) ? "quoted" : s.says(), "quoted");
                }
            }
        }
        for (int i = 1; i <= PROMISES; i++) {
            promise = i;
            due(tested[i] ? "tested" : "not tested", "tested");
        }
    }

    private static String plain(String text) {
        return text.replaceAll("\\s+", " ");
    }
}
