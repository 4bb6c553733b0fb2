import java.io.IOException;
import java.lang.reflect.Constructor;
import java.lang.reflect.Field;
import java.lang.reflect.Method;
import java.lang.reflect.Modifier;
import java.nio.file.Files;
import java.nio.file.Path;
import java.util.Set;
import java.util.TreeSet;
import java.util.regex.Matcher;
import java.util.regex.Pattern;

/** The public face as the document tells it, and those rules of LANGUAGE.md that a text can show. */
public final class FaceTests {
    private static final String[] FACE = {
        "write(long,int)", "erase()", "fault()", "laid()", "road(int,int,boolean,boolean)", "steps(int)",
        "far(int,int)", "rounds(int,int,int,int)", "worth(int,int,int)", "best(int,int,int)", "fewest(int)",
        "escapes(int,int)", "hunt(int,int,int,int)", "flee(int,int,int,int)", "play(int,int,int,int)",
        "turn(int,int)", "now(int)", "spread(int,int,int)", "clear(int,int,int)", "free(int,int)",
        "flying(boolean,int)", "away(int)", "least(int)", "safe(int,int)", "guards(int,int)",
        "answer(int,int,int)", "count(int)"
    };
    private static final String[] FORBIDDEN = {
        "\\bthrows?\\b", "\\btry\\b", "\\bcatch\\b", "\\bfinally\\b", "\\bsynchronized\\b", "\\bassert\\b",
        "->", "::", "\\bpackage\\b", "\\bvar\\b", "\\bThread\\b", "\\bRandom\\b",
        "\\bSystem\\.(?!arraycopy)", "\\bnumberOf", "Exact\\(", "\\bimport (?!java\\.util\\.Arrays;)",
        "\\bMath\\.(?!max|min|abs)", "\\bArrays\\.(?!fill|copyOf)", "\\bwhile \\(true", "for \\(;;"
    };
    private static final Check CHECK = new Check("FaceTests");

    public static void main(String[] args) throws IOException {
        face();
        nested();
        String source = Files.readString(Path.of(System.getProperty("runnernet.source", "src/main/java/RunnerNet.java")));
        words(source);
        CHECK.end();
    }

    private static void face() {
        Class<RunnerNet> face = RunnerNet.class;
        CHECK.holds("public and final", Modifier.isPublic(face.getModifiers()) && Modifier.isFinal(face.getModifiers()));
        CHECK.holds("no class above", face.getSuperclass() == Object.class && face.getInterfaces().length == 0);
        Set<String> due = new TreeSet<>(java.util.List.of(FACE));
        Set<String> names = new TreeSet<>();
        for (String method : FACE) {
            names.add(method.substring(0, method.indexOf('(')));
        }
        for (Method method : face.getDeclaredMethods()) {
            if (method.isSynthetic()) {
                continue;
            }
            StringBuilder told = new StringBuilder(method.getName()).append('(');
            for (Class<?> type : method.getParameterTypes()) {
                told.append(told.charAt(told.length() - 1) == '(' ? "" : ",").append(type.getName());
            }
            told.append(')');
            int modifiers = method.getModifiers();
            if (Modifier.isPrivate(modifiers)) {
                CHECK.holds("private with a public name: " + told, !names.contains(method.getName()));
                continue;
            }
            CHECK.holds("in the face: " + told, due.remove(told.toString()));
            CHECK.holds("public, an int: " + told, modifiers == Modifier.PUBLIC && method.getReturnType() == int.class);
        }
        CHECK.holds("all methods of the face, but " + due, due.isEmpty());
        Constructor<?>[] constructors = face.getDeclaredConstructors();
        CHECK.holds("one constructor", constructors.length == 1 && constructors[0].getParameterCount() == 0
            && constructors[0].getModifiers() == Modifier.PUBLIC);
        int constants = 0;
        for (Field field : face.getDeclaredFields()) {
            int modifiers = field.getModifiers();
            constants += Modifier.isPublic(modifiers) ? 1 : 0;
            CHECK.holds("private or public: " + field, Modifier.isPrivate(modifiers) || Modifier.isPublic(modifiers));
        }
        CHECK.due("public constants", 5, constants);
    }

    private static void nested() {
        Class<?>[] classes = RunnerNet.class.getDeclaredClasses();
        CHECK.holds("twelve classes at most", classes.length < 12);
        Set<String> names = new TreeSet<>();
        for (Method method : RunnerNet.class.getMethods()) {
            names.add(method.getName());
        }
        for (Class<?> inside : classes) {
            int modifiers = inside.getModifiers();
            CHECK.holds("static, not public: " + inside, Modifier.isStatic(modifiers) && !Modifier.isPublic(modifiers));
            CHECK.holds("fields of " + inside, inside.getDeclaredFields().length <= 20);
            for (Field field : inside.getDeclaredFields()) {
                int of = field.getModifiers();
                CHECK.holds("static is final: " + field, !Modifier.isStatic(of) || Modifier.isFinal(of));
            }
            for (Method method : inside.getDeclaredMethods()) {
                CHECK.holds("seven parameters: " + method, method.getParameterCount() <= 7);
                CHECK.holds("no public name inside: " + method, method.isSynthetic() || !names.contains(method.getName()));
            }
        }
    }

    private static void words(String source) {
        CHECK.holds("signs of 7 bits", source.chars().allMatch(c -> c < 128));
        String code = source.replaceAll("(?s)/\\*.*?\\*/", "").replaceAll("//[^\n]*", "");
        for (String forbidden : FORBIDDEN) {
            Matcher matcher = Pattern.compile(forbidden).matcher(code);
            CHECK.holds("no " + forbidden, !matcher.find());
        }
        int longest = 0;
        int length = 0;
        for (String line : source.split("\n")) {
            boolean begins = line.matches("( {4}| {8})(public|private|static|int|long|void|boolean|[A-Z]\\w*)\\b.*\\) \\{");
            length = begins ? 0 : length + 1;
            if (line.matches(" {4}\\}| {8}\\}")) {
                longest = Math.max(longest, Math.min(length, 1000));
                length = -1000000;
            }
        }
        CHECK.holds("methods of sixty lines at most, not " + longest, longest <= 60);
    }
}
