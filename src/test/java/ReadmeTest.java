import java.io.File;
import java.io.IOException;
import java.lang.reflect.Method;
import java.lang.reflect.Modifier;
import java.nio.file.Files;
import java.nio.file.Path;
import java.util.Set;
import java.util.TreeSet;
import java.util.regex.Matcher;
import java.util.regex.Pattern;

/** README.md says how to use the class: what it shows must be so, and no call or test may be missing there. */
public final class ReadmeTest {
    private final Check check = new Check();
    private final String text;

    private ReadmeTest() throws IOException {
        text = Files.readString(Path.of("README.md"));
    }

    public static void main(String[] args) throws IOException {
        ReadmeTest test = new ReadmeTest();
        test.example();
        test.bay();
        test.words();
        test.calls();
        test.tests();
        test.check.end("ReadmeTest");
    }

    private String block(String sort) {
        Matcher m = Pattern.compile("(?s)```" + sort + "\\n(.*?)```").matcher(text);
        return m.find() ? m.group(1) : "";
    }

    private void example() {
        Matcher m = Pattern.compile("feed\\(0x(\\w+)L, 0x(\\w+)L, 0L\\)").matcher(block("java"));
        check.due("the example feeds", m.find(), true);
        OneCable cable = new OneCable();
        long a = Long.parseUnsignedLong(m.group(1), 16);
        long b = Long.parseUnsignedLong(m.group(2), 16);
        check.due("its signs", cable.feed(a, b, 0L), "bay 3 2 ;".length());
        check.due("its fault", cable.bay(), 0);
        check.due("how wide", cable.count(0), 3);
        check.due("how deep", cable.count(1), 2);
    }

    private void bay() {
        OneCable cable = new OneCable();
        check.due("the bay that is told there", Check.tell(cable, block("text")), 0);
        check.due("its boats", cable.count(2), 2);
        check.due("its fish", cable.count(5), 10);
        check.due("its swell", cable.cell(2, 0, 1), 10);
        check.due("its wish: no fish, and rough in hour 0", cable.wish(0, 2), 0);
        cable.hours(5);
        cable.order(0, 1);
        check.due("the number of the next hour", cable.hours(1), 6);
        check.due("swept", cable.count(6), 4);
        check.due("its wish on the shoal, calm from hour 6 on: 6 are left and one is new", cable.wish(0, 2), 7);
    }

    /** Each line of a bay, each kind and each fact stands in the page's text. */
    private void words() {
        for (String word : ("bay rock shoal fish boat at hold pull trust cable strong swell wish gales loose plain slow oar"
            + " old keen not and or x y hour rough room far").split(" ")) {
            check.due("the word " + word, Pattern.compile("`" + word + "\\b").matcher(text).find(), true);
        }
    }

    private void calls() {
        Set<String> due = new TreeSet<>();
        for (Method method : OneCable.class.getDeclaredMethods()) {
            if (Modifier.isPublic(method.getModifiers())) {
                due.add(method.getName() + " " + method.getParameterCount());
            }
        }
        Set<String> told = new TreeSet<>();
        Matcher m = Pattern.compile("(?m)^\\| `(\\w+)\\((.*?)\\)` \\|").matcher(text);
        while (m.find()) {
            told.add(m.group(1) + " " + (m.group(2).isEmpty() ? 0 : m.group(2).split(",").length));
        }
        check.due("calls " + told + " for " + due, told.equals(due), true);
    }

    private void tests() {
        String[] names = new File("src/test/java").list();
        for (String name : names == null ? new String[0] : names) {
            if (name.endsWith("Test.java") || name.endsWith("Edges.java") && !name.equals("Edges.java")) {
                check.due(name, text.contains("`" + name.replace(".java", "") + "`"), true);
            }
        }
        check.due("how they are run", block("sh").contains(".ci/run"), true);
    }
}
