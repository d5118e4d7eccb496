import java.lang.reflect.Constructor;
import java.lang.reflect.Field;
import java.lang.reflect.Method;
import java.lang.reflect.Modifier;
import java.util.Arrays;
import java.util.Set;
import java.util.TreeSet;

/** The public face: what the document names, and no other member that can be seen from outside. */
public final class FaceTest {
    private static final String[] FACE = {
        "int feed(long, long, long)", "int bay()", "int boat(int, int)", "int link(int, int)", "int cell(int, int, int)",
        "boolean order(int, int)", "int hours(int)", "boolean mend(int)", "int grip(int, int, int)",
        "int soon(int, int, int)", "int wish(int, int)", "int chosen(boolean)", "int canGet(int)", "int worth(int, int)",
        "boolean share(int, int)", "int leaves()", "int fair(int)", "int storm(int) throws java.util.NoSuchElementException",
        "int join(int, int, int)", "int seasons(int, int, int)", "boolean mark(int, boolean)", "int count(int)"};

    public static void main(String[] args) {
        Check check = new Check();
        Set<String> due = new TreeSet<>(Arrays.asList(FACE));
        Set<String> seen = new TreeSet<>();
        for (Method method : OneCable.class.getDeclaredMethods()) {
            if (!Modifier.isPrivate(method.getModifiers())) {
                check.due(method + " is public alone", method.getModifiers(), Modifier.PUBLIC);
                seen.add(head(method));
            }
        }
        check.due("methods " + seen + " for " + due, seen.equals(due), true);
        asWritten(check);
        check.due("the class", OneCable.class.getModifiers(), Modifier.PUBLIC | Modifier.FINAL);
        check.due("it extends nothing", OneCable.class.getSuperclass() == Object.class, true);
        check.due("it implements nothing", OneCable.class.getInterfaces().length, 0);
        Constructor<?>[] constructors = OneCable.class.getDeclaredConstructors();
        check.due("constructors", constructors.length, 1);
        check.due("parameters", constructors[0].getParameterCount(), 0);
        check.due("it is public", constructors[0].getModifiers(), Modifier.PUBLIC);
        fields(check);
        classes(check);
        check.end("FaceTest");
    }

    private static String head(Method method) {
        StringBuilder head = new StringBuilder(method.getReturnType() + " " + method.getName() + "(");
        for (Class<?> type : method.getParameterTypes()) {
            head.append(head.charAt(head.length() - 1) == '(' ? "" : ", ").append(type);
        }
        head.append(')');
        for (Class<?> thrown : method.getExceptionTypes()) {
            head.append(" throws ").append(thrown.getName());
        }
        return head.toString();
    }

    /** The document's own lines name the same face: one constant, one constructor, and the methods above. */
    private static void asWritten(Check check) {
        Document document = Document.read();
        if (document == null) {
            return;
        }
        Set<String> written = new TreeSet<>();
        for (String line : document.face()) {
            String names = line.replaceAll("^public |;$", "").replaceAll("(\\w+) \\w+(?=[,)])", "$1");
            written.add(names.replace("NoSuchElement", "java.util.NoSuchElement"));
        }
        Set<String> due = new TreeSet<>(Arrays.asList(FACE));
        due.add("static final int NONE = -1");
        due.add("OneCable()");
        check.due("the document has " + written + " for " + due, written.equals(due), true);
        check.due("NONE", OneCable.NONE, -1);
    }

    private static void fields(Check check) {
        for (Field field : OneCable.class.getDeclaredFields()) {
            boolean named = field.getName().equals("NONE");
            int open = Modifier.PUBLIC | Modifier.STATIC | Modifier.FINAL;
            check.due(field + " is private", Modifier.isPrivate(field.getModifiers()), !named);
            check.due(field + " as told", named ? field.getModifiers() : open, open);
            check.due(field + " is final", Modifier.isFinal(field.getModifiers()), true);
        }
    }

    /** Rule 1: the classes inside are private or package-visible, and static. */
    private static void classes(Check check) {
        for (Class<?> inside : OneCable.class.getDeclaredClasses()) {
            int modifiers = inside.getModifiers();
            check.due(inside + " is static", Modifier.isStatic(modifiers), true);
            check.due(inside + " is hidden", Modifier.isPublic(modifiers) || Modifier.isProtected(modifiers), false);
            for (Field field : inside.getDeclaredFields()) {
                boolean changing = Modifier.isStatic(field.getModifiers()) && !Modifier.isFinal(field.getModifiers());
                check.due(field + " is no static state", changing, false);
            }
        }
    }
}
