import java.io.IOException;
import java.lang.reflect.Constructor;
import java.lang.reflect.Field;
import java.lang.reflect.Method;
import java.lang.reflect.Modifier;
import java.nio.file.Files;
import java.nio.file.Path;
import java.util.ArrayList;
import java.util.List;
import java.util.TreeSet;
import java.util.regex.Matcher;
import java.util.regex.Pattern;

/** The public face, and those rules of LANGUAGE.md that can be seen from outside. */
public final class FaceTest {
    private static final Check CHECK = new Check("FaceTest");
    private static final String[] FACE = {
        "int feed(int,int,int,int,int)", "int end(int)", "int text()", "int fault(int)", "int count(int)",
        "int kind(int,int)", "boolean slacken(int,int)", "int call(int,int)", "int wakes(int)", "int wake(int,int)",
        "int price(int,int)", "int proof(int)", "int answer(int,int)", "boolean rule(int)", "int go(int)",
        "int ring(int)", "int now()", "int hand(int)", "int round(int)", "int roundAt(int)",
        "int would(int,int,int)", "int enough(int,int)"};

    public static void main(String[] args) throws IOException {
        face();
        nested();
        source();
        CHECK.finish();
    }

    private static String shown(Method method) {
        StringBuilder text = new StringBuilder(method.getReturnType().getName());
        text.append(' ').append(method.getName()).append('(');
        for (Class<?> type : method.getParameterTypes()) {
            text.append(text.charAt(text.length() - 1) == '(' ? "" : ",").append(type.getName());
        }
        return text.append(')').toString();
    }

    private static void face() {
        Class<?> it = WakeSaver.class;
        CHECK.yes("public and final", it.getModifiers() == (Modifier.PUBLIC | Modifier.FINAL));
        CHECK.same("NONE", WakeSaver.NONE, -1);
        TreeSet<String> due = new TreeSet<>(List.of(FACE));
        TreeSet<String> found = new TreeSet<>();
        for (Method method : it.getDeclaredMethods()) {
            if (Modifier.isPublic(method.getModifiers())) {
                found.add(shown(method));
                CHECK.no("static " + method, Modifier.isStatic(method.getModifiers()));
            } else {
                CHECK.yes("private " + method, Modifier.isPrivate(method.getModifiers()));
            }
        }
        CHECK.yes("the face is " + found, found.equals(due));
        for (Field field : it.getDeclaredFields()) {
            boolean constant = field.getName().equals("NONE");
            CHECK.yes("private " + field, constant || Modifier.isPrivate(field.getModifiers()));
        }
        Constructor<?>[] constructors = it.getDeclaredConstructors();
        CHECK.same("constructors", constructors.length, 1);
        CHECK.yes("public constructor", Modifier.isPublic(constructors[0].getModifiers()));
        CHECK.same("its parameters", constructors[0].getParameterCount(), 0);
    }

    private static void nested() {
        List<Class<?>> all = new ArrayList<>(List.of(WakeSaver.class.getDeclaredClasses()));
        CHECK.yes("at most twelve classes", all.size() < 12);
        for (Class<?> it : all) {
            CHECK.yes("static " + it, Modifier.isStatic(it.getModifiers()));
            CHECK.no("public " + it, Modifier.isPublic(it.getModifiers()));
        }
        all.add(WakeSaver.class);
        for (Class<?> it : all) {
            int fields = 0;
            for (Field field : it.getDeclaredFields()) {
                boolean fixed = Modifier.isStatic(field.getModifiers());
                fields += fixed ? 0 : 1;
                CHECK.yes("final " + field, !fixed || Modifier.isFinal(field.getModifiers()));
            }
            CHECK.yes("fields of " + it, fields <= 20);
            for (Method method : it.getDeclaredMethods()) {
                CHECK.yes("parameters of " + method, method.getParameterCount() <= 7);
                CHECK.no("name of " + method, it != WakeSaver.class && named(method.getName()));
            }
        }
    }

    private static boolean named(String name) {
        for (String method : FACE) {
            if (method.contains(" " + name + "(")) {
                return true;
            }
        }
        return false;
    }

    private static void source() throws IOException {
        Path path = Path.of(System.getProperty("wakesaver.source", "src/main/java/WakeSaver.java"));
        String text = Files.readString(path).replaceAll("(?s)/\\*.*?\\*/", "").replaceAll("//[^\n]*", "");
        String[] banned = {"throw", "throws", "try", "catch", "finally", "synchronized", "assert", "import", "package",
            "Exact", "System", "Thread", "Object", "hashCode", "toString", "volatile", "native", "protected"};
        for (String word : banned) {
            CHECK.no(word, Pattern.compile("\\b\\w*" + word + "\\b").matcher(text).find());
        }
        CHECK.no("lambda", text.contains("->"));
        CHECK.no("method reference", text.contains("::"));
        methodsStayShort(text);
    }

    private static void methodsStayShort(String text) {
        Matcher heads = Pattern.compile("(?m)^( {4}| {8})(?!if|for|while|switch|else)\\w.*\\) \\{$").matcher(text);
        while (heads.find()) {
            int end = text.indexOf("\n" + heads.group(1) + "}", heads.end());
            long lines = text.substring(heads.start(), Math.max(end, heads.start())).lines().count();
            CHECK.yes("sixty lines at most:" + heads.group(), lines <= 60);
        }
    }
}
