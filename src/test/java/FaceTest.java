import java.io.IOException;
import java.lang.reflect.Constructor;
import java.lang.reflect.Field;
import java.lang.reflect.Method;
import java.lang.reflect.Modifier;
import java.nio.file.Files;
import java.nio.file.Path;
import java.util.ArrayList;
import java.util.List;
import java.util.TreeSet;
import java.util.regex.Matcher;
import java.util.regex.Pattern;

/** The public face: as it stands here, in the compiled class, in its text and in the document. */
public final class FaceTest {
    private static final Check CHECK = new Check("FaceTest");
    private static final String[] FACE = {
        "int feed(int a, int b, int c, int d, int e)", "int end(int n)", "int text()", "int fault(int what)",
        "int count(int what)", "int kind(int kind, int what)", "boolean slacken(int kind, int slack)",
        "int call(int k, int what)", "int wakes(int plan)", "int wake(int plan, int k)",
        "int price(int plan, int what)", "int proof(int k)", "int answer(int plan, int call)",
        "boolean rule(int rule)", "int go(int n)", "int ring(int kind)", "int now()", "int hand(int what)",
        "int round(int what)", "int roundAt(int k)", "int would(int kind, int slack, int what)",
        "int enough(int kind, int n)"};

    public static void main(String[] args) throws IOException {
        methods();
        constants();
        constructors();
        names();
        Path source = Path.of(System.getProperty("wakesaver.source", "src/main/java/WakeSaver.java"));
        String text = Files.readString(source);
        inOrder(text);
        Path document = Path.of(System.getProperty("wakesaver.document", "../shared/DOC.md"));
        if (Files.isReadable(document)) {
            compare(Files.readString(document), text);
        } else {
            System.out.println("FaceTest: no document at " + document + ", the face is not compared with it");
        }
        CHECK.finish();
    }

    private static String shown(Method method) {
        StringBuilder text = new StringBuilder(method.getReturnType().getName());
        text.append(' ').append(method.getName()).append('(');
        for (Class<?> type : method.getParameterTypes()) {
            text.append(text.charAt(text.length() - 1) == '(' ? "" : ", ").append(type.getName());
        }
        return text.append(')').toString();
    }

    private static void methods() {
        TreeSet<String> due = new TreeSet<>();
        for (String method : FACE) {
            due.add(method.replaceAll("int \\w+(?=[,)])", "int"));
        }
        TreeSet<String> found = new TreeSet<>();
        CHECK.yes("public and final", WakeSaver.class.getModifiers() == (Modifier.PUBLIC | Modifier.FINAL));
        for (Method method : WakeSaver.class.getDeclaredMethods()) {
            if (Modifier.isPublic(method.getModifiers())) {
                found.add(shown(method));
                CHECK.no("static " + method, Modifier.isStatic(method.getModifiers()));
            } else {
                CHECK.yes("private " + method, Modifier.isPrivate(method.getModifiers()));
            }
        }
        CHECK.yes("the face is " + found, found.equals(due));
    }

    private static void constants() {
        CHECK.same("NONE", WakeSaver.NONE, -1);
        for (Field field : WakeSaver.class.getDeclaredFields()) {
            int seen = field.getModifiers();
            CHECK.yes("private " + field, field.getName().equals("NONE")
                    ? seen == (Modifier.PUBLIC | Modifier.STATIC | Modifier.FINAL) && field.getType() == int.class
                    : Modifier.isPrivate(seen));
        }
    }

    private static void constructors() {
        Constructor<?>[] all = WakeSaver.class.getDeclaredConstructors();
        CHECK.same("constructors", all.length, 1);
        CHECK.yes("public constructor", Modifier.isPublic(all[0].getModifiers()));
        CHECK.same("its parameters", all[0].getParameterCount(), 0);
    }

    /** No method of a class inside bears the name of a public one. */
    private static void names() {
        for (Class<?> it : WakeSaver.class.getDeclaredClasses()) {
            CHECK.no("public " + it, Modifier.isPublic(it.getModifiers()));
            for (Method method : it.getDeclaredMethods()) {
                for (String due : FACE) {
                    CHECK.no("name of " + method, due.contains(" " + method.getName() + "("));
                }
            }
        }
    }

    /** The text of the class has the face in its order, with the names of the parameters. */
    private static void inOrder(String text) {
        int at = text.indexOf("public WakeSaver() {");
        CHECK.yes("the constructor", at > text.indexOf("public static final int NONE = -1;"));
        for (String method : FACE) {
            int next = text.indexOf("    public " + method + " {");
            CHECK.yes(method + " in its place", next > at);
            at = Math.max(at, next);
        }
    }

    private static List<String> found(String pattern, String text) {
        List<String> all = new ArrayList<>();
        Matcher matcher = Pattern.compile(pattern).matcher(text);
        while (matcher.find()) {
            all.add(matcher.group(1));
        }
        return all;
    }

    private static void compare(String document, String text) {
        List<String> due = List.of(FACE);
        String face = document.substring(document.indexOf("## The public face"), document.indexOf("## Terms"));
        CHECK.yes("the class of the document", face.contains("public final class WakeSaver {"));
        CHECK.yes("its constants", found("public static final (.*);", face).equals(List.of("int NONE = -1")));
        CHECK.yes("its constructor", found("public (WakeSaver\\(.*\\));", face).equals(List.of("WakeSaver()")));
        CHECK.yes("its methods", found("public ((?:int|boolean) \\w+\\(.*\\));", face).equals(due));
        List<String> promised = found("(?m)^`((?:int|boolean) \\w+\\(.*?\\))`:", document);
        CHECK.yes("its promises are of " + promised, promised.equals(due));
        Matcher ahead = Pattern.compile("Ahead of the calls `(\\w+)`.* the interface says: (---- .*)\\.\n")
                .matcher(document);
        int marks = 0;
        for (; ahead.find(); marks++) {
            boolean just = Pattern.compile(" // " + Pattern.quote(ahead.group(2)) + "\\s+public \\w+ "
                    + ahead.group(1) + "\\(").matcher(text).find();
            CHECK.yes(ahead.group(2) + " just ahead of " + ahead.group(1), just);
        }
        CHECK.same("words ahead of calls", marks, 5);
    }
}
