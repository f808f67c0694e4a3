import java.lang.reflect.Constructor;
import java.lang.reflect.Field;
import java.lang.reflect.Method;
import java.lang.reflect.Modifier;
import java.nio.file.Files;
import java.nio.file.Path;
import java.util.ArrayList;
import java.util.Arrays;
import java.util.HashSet;
import java.util.List;
import java.util.Set;
import java.util.TreeSet;
import java.util.regex.Matcher;
import java.util.regex.Pattern;

/** The face is the document's and no more, and the file keeps to what of LANGUAGE.md can be seen from outside. */
public final class FaceTest {
    private static final String[] FACE = {
        "int feed(int,int,int,int,int)", "int scene(int)", "int fault()", "int count(int)", "int mark(int)",
        "int inches(int,int)", "int turn(int)", "int tenth(int,int)", "int all(int)", "int hole(int)",
        "int lag(int)", "int wrist(int)", "int eye(int)", "boolean hand(int)", "int behind(int)",
        "int chalk(int,int)", "int undo()", "int best(int)", "int foretell(int)", "int holes(int)",
        "int light(int,int)", "int both()", "int marks(int)", "int kept(int)", "int takes(int,int,int,int,int)",
        "int see(int,boolean)", "int fits(int)", "int book(int)", "int next(int,int)", "int middle(int)",
        "void forget()", "int runs(int,int)", "int cure()", "int wrists()", "int learn()", "int shift(int)",
        "int slip(int)", "int lags(int)", "int depth(int,int)", "int shots(int)", "int quickest(int)",
        "void image()", "boolean restore()"
    };
    private static final String[] FORBIDDEN = {
        "->", "::", "\\bfinally\\b", "\\bsynchronized\\b", "\\bassert\\b", "\\bcatch\\b", "\\btry\\b", "Exact\\b",
        "\\bdouble\\b", "\\bfloat\\b", "\\bString\\.", "\\bSystem\\.(?!arraycopy)", "\\bhashCode\\b", "\\btoString\\b",
        "\\bordinal\\b", "\\bObject\\b", "\\bstatic \\{", "\\bwhile\\b"
    };
    private static int wrong = 0;

    public static void main(String[] args) throws Exception {
        face();
        faceOfDocument();
        source();
        if (wrong > 0) {
            System.exit(1);
        }
    }

    private static void check(boolean good, String what) {
        if (!good) {
            wrong++;
            System.out.println(what);
        }
    }

    private static String told(Method m) {
        StringBuilder s = new StringBuilder(m.getReturnType().getName() + " " + m.getName() + "(");
        for (Class<?> c : m.getParameterTypes()) {
            s.append(s.charAt(s.length() - 1) == '(' ? "" : ",").append(c.getName());
        }
        return s + ")";
    }

    private static void face() {
        Class<RingHand> c = RingHand.class;
        check(Modifier.isFinal(c.getModifiers()) && Modifier.isPublic(c.getModifiers()), "not public and final");
        Set<String> found = new TreeSet<>();
        Set<String> names = new HashSet<>();
        List<String> hidden = new ArrayList<>();
        for (Method m : c.getDeclaredMethods()) {
            if (Modifier.isPublic(m.getModifiers())) {
                found.add(told(m));
                names.add(m.getName());
            } else if (!m.isSynthetic()) {
                hidden.add(m.getName());
                check(Modifier.isPrivate(m.getModifiers()), "not private: " + m);
            }
        }
        check(found.equals(new TreeSet<>(Arrays.asList(FACE))), "the methods are " + found);
        for (String name : hidden) {
            check(!names.contains(name), "a private method has a public one's name: " + name);
        }
        for (Field f : c.getDeclaredFields()) {
            check(Modifier.isPrivate(f.getModifiers()) || f.getName().equals("NONE"), "not private: " + f);
            check(!Modifier.isStatic(f.getModifiers()) || Modifier.isFinal(f.getModifiers()), "not final: " + f);
        }
        for (Constructor<?> k : c.getDeclaredConstructors()) {
            check(Modifier.isPublic(k.getModifiers()) && k.getParameterCount() == 0, "a constructor more: " + k);
        }
        check(c.getDeclaredClasses().length <= 11, "too many classes");
        fields(c);
        for (Class<?> inner : c.getDeclaredClasses()) {
            check(Modifier.isStatic(inner.getModifiers()), "not static: " + inner);
            check(!Modifier.isPublic(inner.getModifiers()), "public: " + inner);
            fields(inner);
            for (Method m : inner.getDeclaredMethods()) {
                check(m.getParameterCount() <= 7, "too many parameters: " + m);
                check(!names.contains(m.getName()), "an inner method has a public one's name: " + m);
            }
        }
    }

    /** Rules 5 and 11: what is static is final, and a class has some twenty fields. */
    private static void fields(Class<?> c) {
        int many = 0;
        for (Field f : c.getDeclaredFields()) {
            boolean isStatic = Modifier.isStatic(f.getModifiers());
            many += isStatic ? 0 : 1;
            check(!isStatic || Modifier.isFinal(f.getModifiers()), "static, but not final: " + f);
        }
        check(many <= 20, "too many fields: " + c);
    }

    /** Each line of the document's face stands in the file as it is, with what it may throw. */
    private static void faceOfDocument() throws Exception {
        Path doc = Path.of("../shared/DOC.md");
        if (!Files.exists(doc)) {
            return;
        }
        String file = Files.readString(Path.of("src/main/java/RingHand.java")).replaceAll("\\s+", " ");
        int found = 0;
        for (String line : Files.readString(doc).split("\n")) {
            if (line.startsWith("    public ")) {
                found++;
                String declared = line.strip().replaceAll(";$", "");
                check(file.contains(declared + " {") || file.contains(declared + ";"), "not as told: " + declared);
            }
        }
        check(found == FACE.length + 2, "the document's face has " + found + " lines");
    }

    /** Whatever looks like the first is wholly like the second. */
    private static void eachIs(String code, String found, String allowed) {
        Matcher m = Pattern.compile(found).matcher(code);
        while (m.find()) {
            check(m.group().matches(allowed), "not allowed: " + m.group());
        }
    }

    private static void source() throws Exception {
        String all = Files.readString(Path.of("src/main/java/RingHand.java"));
        check(all.chars().allMatch(ch -> ch == 10 || ch >= 32 && ch < 127), "a sign beyond ASCII, or a tab");
        String code = all.replaceAll("(?s)/\\*.*?\\*/", "").replaceAll("//[^\n]*", "")
            .replaceAll("\"[^\"\n]*\"", "\"\"");
        for (String f : FORBIDDEN) {
            Matcher m = Pattern.compile(f).matcher(code);
            check(!m.find(), "forbidden: " + f);
        }
        eachIs(code, "\\bimport\\b[^;]*;", "import java.util.NoSuchElementException;");
        eachIs(code, "\\bthrow\\b[^;]*;", "throw new (NoSuchElement|IllegalArgument)Exception\\(\"\"\\);");
        eachIs(code, "\\b(Math|Integer|Long|Arrays)\\.\\w+", "Math\\.(max|min|abs)");
        check(!Pattern.compile("\" \\+|\\+ \"").matcher(code).find(), "texts are joined by +");
        int begun = 0;
        String[] lines = code.split("\n");
        for (int i = 0; i < lines.length; i++) {
            if (lines[i].matches("( {4}| {8})[a-zA-Z].*\\) ?.*\\{") && !lines[i].contains("class ")) {
                begun = i;
            }
            check(i - begun <= 60 || !lines[i].matches("( {4}| {8})}"), "a long method ends at line " + (i + 1));
        }
    }
}
