import java.io.IOException;
import java.lang.reflect.Field;
import java.lang.reflect.Method;
import java.lang.reflect.Modifier;
import java.nio.file.Files;
import java.nio.file.Path;
import java.util.ArrayList;
import java.util.HashSet;
import java.util.List;
import java.util.Set;
import java.util.regex.Matcher;
import java.util.regex.Pattern;

/** The document's face, and what can be seen of ../shared/LANGUAGE.md's rules from outside. */
public final class LanguageTest {
    private static final Check CHECK = new Check("LanguageTest");

    private static final String FACE = "feed/5 back/1 read/0 place/0 seam/2 cart/2 toll/2 sew/2 cut/1 unpick/2 send/1? weeks/1 "
        + "undo/0? far/2 hops/2 joined/1 hangs/0 takes/2 sewing/3 surest/2 soon/2 holds/2 rows/0 march/1 doubles/3 then/2 "
        + "cartIn/3 year/4 tell/3 forget/0 cuts/2 ask/1 hold/1? restore/1? count/1";

    // Words that rules 2, 4, 6 and 13 keep out; a comment may have them.
    private static final String[] KEPT_OUT = {
        "throw", "throws", "try", "catch", "finally", "synchronized", "assert", "volatile", "transient", "native", "strictfp",
        "->", "::", "Exact", "Random", "Thread", "System.out", "System.err", "System.exit", "currentTimeMillis", "nanoTime",
        "getenv", "package", "HashMap", "HashSet", "Object", "hashCode", "toString", "getClass", "String.format", "protected"};

    public static void main(String[] args) throws IOException {
        face();
        faceOfDocument();
        String code = withoutCommentsAndTexts(Files.readString(Path.of("src/main/java/SewnRoads.java")));
        for (String word : KEPT_OUT) {
            boolean letters = Character.isLetter(word.charAt(0)) && !word.equals("Exact");
            String pattern = letters ? "\\b" + Pattern.quote(word) + "\\b" : Pattern.quote(word);
            CHECK.due("language: " + word + " in the code", Pattern.compile(pattern).matcher(code).find(), false);
        }
        imports(code);
        methodsAreShort(code);
        classes();
        CHECK.end();
    }

    private static void face() {
        List<String> want = new ArrayList<>(List.of(FACE.split(" ")));
        int publics = 0;
        for (Method m : SewnRoads.class.getDeclaredMethods()) {
            if (!Modifier.isPrivate(m.getModifiers())) {
                publics++;
                boolean answers = m.getReturnType() == boolean.class;
                String shape = m.getName() + "/" + m.getParameterCount() + (answers ? "?" : "");
                CHECK.due("face: " + shape, want.contains(shape), true);
                CHECK.due("face: " + shape + " is public", Modifier.isPublic(m.getModifiers()), true);
                for (Class<?> type : m.getParameterTypes()) {
                    CHECK.due("face: " + shape + " takes ints", type == int.class, true);
                }
                CHECK.due("face: " + shape + " answers", answers || m.getReturnType() == int.class, true);
                CHECK.due("face: " + shape + " is of the object", Modifier.isStatic(m.getModifiers()), false);
            }
        }
        CHECK.due("face: methods", publics, want.size());
        CHECK.due("face: constructors", SewnRoads.class.getDeclaredConstructors().length, 1);
        CHECK.due("face: public constructors without parameters", SewnRoads.class.getConstructors()[0].getParameterCount(), 0);
        CHECK.due("face: the class is final", Modifier.isFinal(SewnRoads.class.getModifiers()), true);
        for (Field f : SewnRoads.class.getDeclaredFields()) {
            boolean fits = Modifier.isPrivate(f.getModifiers()) || f.getName().equals("NONE");
            CHECK.due("face: field " + f.getName(), fits, true);
        }
        CHECK.due("face: NONE", SewnRoads.NONE, -1);
    }

    private static void faceOfDocument() {
        String document = Document.wholeText();
        if (document.isEmpty()) {
            return;
        }
        StringBuilder shapes = new StringBuilder();
        Matcher m = Pattern.compile("    public (int|boolean) (\\w+)\\(([^)]*)\\);").matcher(document);
        while (m.find()) {
            int parameters = m.group(3).isEmpty() ? 0 : m.group(3).split(",").length;
            shapes.append(m.group(2)).append('/').append(parameters).append(m.group(1).equals("int") ? " " : "? ");
        }
        CHECK.due("face: that of the document is " + shapes, shapes.toString().strip().equals(FACE), true);
    }

    private static void classes() {
        Set<String> publicNames = new HashSet<>();
        for (String shape : FACE.split(" ")) {
            publicNames.add(shape.substring(0, shape.indexOf('/')));
        }
        List<Class<?>> all = new ArrayList<>(List.of(SewnRoads.class.getDeclaredClasses()));
        CHECK.due("language: some twelve classes", all.size() < 12, true);
        for (Class<?> c : all) {
            CHECK.due("language: " + c + " is static", Modifier.isStatic(c.getModifiers()), true);
            CHECK.due("language: " + c + " holds no class", c.getDeclaredClasses().length, 0);
            for (Method m : c.getDeclaredMethods()) {
                CHECK.due("language: " + c + "." + m.getName() + " has a public name", publicNames.contains(m.getName()), false);
            }
        }
        all.add(SewnRoads.class);
        for (Class<?> c : all) {
            int fields = 0;
            for (Field f : c.getDeclaredFields()) {
                fields += Modifier.isStatic(f.getModifiers()) ? 0 : 1;
                boolean constant = Modifier.isFinal(f.getModifiers()) && (f.getType().isPrimitive() || f.getType() == String.class);
                CHECK.due("language: static " + f, Modifier.isStatic(f.getModifiers()) && !constant, false);
            }
            CHECK.due("language: fields of " + c + " are " + fields, fields <= 20, true);
            for (Method m : c.getDeclaredMethods()) {
                CHECK.due("language: parameters of " + m, m.getParameterCount() <= 7, true);
                boolean hidden = c == SewnRoads.class && Modifier.isPrivate(m.getModifiers()) && publicNames.contains(m.getName());
                CHECK.due("language: " + m.getName() + " has a public name", hidden, false);
            }
        }
    }

    private static void imports(String code) {
        Matcher m = Pattern.compile("import [^;]*;").matcher(code);
        while (m.find()) {
            CHECK.due("language: " + m.group(), m.group().equals("import java.util.Arrays;"), true);
        }
    }

    private static void methodsAreShort(String code) {
        String[] lines = code.split("\n");
        int start = -1;
        for (int i = 0; i < lines.length; i++) {
            String line = lines[i];
            if (start < 0 && line.matches("( {4}| {8})\\S.*\\) \\{") && !line.contains(" class ")) {
                start = i;
            } else if (start >= 0 && line.matches(" {4}\\}| {8}\\}") && line.indexOf('}') == indent(lines[start])) {
                CHECK.due("language: lines of" + lines[start], i - start <= 60, true);
                start = -1;
            }
        }
    }

    private static int indent(String line) {
        return line.length() - line.stripLeading().length();
    }

    private static String withoutCommentsAndTexts(String code) {
        return code.replaceAll("(?s)/\\*.*?\\*/", "").replaceAll("//[^\n]*", "").replaceAll("\"[^\"\n]*\"", "\"\"");
    }
}
