import java.io.IOException;
import java.nio.file.Files;
import java.nio.file.Path;
import java.util.List;
import java.util.Set;
import java.util.TreeSet;
import java.util.regex.Matcher;
import java.util.regex.Pattern;

/** What of ../shared/LANGUAGE.md can be seen in the text of OneCable.java. */
public final class LanguageTest {
    private static final int LONGEST_METHOD = 60;
    private static final int MOST_CLASSES = 12;
    private static final List<String> OUTSIDE = List.of("->", "::", "\\bsynchronized\\b", "\\bfinally\\b",
        "\\bassert\\b", "\\bvar\\b", "Exact\\b", "\\bSystem\\.(?!arraycopy)", "\\bThread\\b", "\\bRandom\\b",
        "\\bdouble\\b", "\\bfloat\\b", "\\bcatch\\b", "\\btry\\b", "\" *\\+", "\\+ *\"", "\\bstatic \\{",
        "\\bprotected\\b", "\\btoString\\b", "\\bhashCode\\b", "\\bextends\\b");

    public static void main(String[] args) throws IOException {
        String text = Files.readString(Path.of("src/main/java/OneCable.java"));
        String code = text.replaceAll("(?s)/\\*.*?\\*/", "").replaceAll("//.*", "");
        Check check = new Check();
        for (String word : OUTSIDE) {
            check.due("rule: " + word, Pattern.compile(word).matcher(code).find(), false);
        }
        for (int i = 0; i < text.length(); i++) {
            check.due("a sign beyond 126 at " + i, text.charAt(i) < 127, true);
        }
        Set<String> imports = new TreeSet<>();
        Matcher m = Pattern.compile("import ([\\w.]+);").matcher(code);
        while (m.find()) {
            imports.add(m.group(1));
        }
        check.due("imports " + imports,
            imports.equals(Set.of("java.util.Arrays", "java.util.NoSuchElementException")), true);
        check.due("classes", Pattern.compile("\\bclass \\w+ \\{").matcher(code).results().count() <= MOST_CLASSES, true);
        methods(check, code);
        check.end("LanguageTest");
    }

    /** Methods are told by their heads: 4 or 8 blanks, a type, a name and ( in a line that ends with {. */
    private static void methods(Check check, String code) {
        Set<String> face = new TreeSet<>();
        Set<String> own = new TreeSet<>();
        String[] lines = code.split("\n", -1);
        Pattern head = Pattern.compile("^( {4}| {8})((?:\\w+(?:\\[\\])* )+)(\\w+)\\((.*)\\).*\\{$");
        for (int i = 0; i < lines.length; i++) {
            Matcher m = head.matcher(lines[i]);
            if (!m.matches() || m.group(2).contains("else")) {
                continue;
            }
            (m.group(2).startsWith("public") ? face : own).add(m.group(3));
            check.due("parameters of " + m.group(3), m.group(4).split(",").length <= 7, true);
            int end = i;
            while (!lines[end].equals(m.group(1) + "}")) {
                end++;
            }
            check.due("lines of " + m.group(3), end - i <= LONGEST_METHOD, true);
        }
        check.due("the constructor and the methods of the face", face.size(), 1 + 22);
        for (String name : own) {
            check.due("a private method with a public one's name: " + name, face.contains(name), false);
        }
    }
}
