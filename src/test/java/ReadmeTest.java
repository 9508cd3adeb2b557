import java.io.IOException;
import java.lang.reflect.InvocationTargetException;
import java.lang.reflect.Method;
import java.lang.reflect.Modifier;
import java.nio.file.Files;
import java.nio.file.Path;
import java.util.regex.Matcher;
import java.util.regex.Pattern;

/** README.md tells the truth: its example answers as it says, and it names every call of the face. */
public final class ReadmeTest {
    private static final Pattern CALL = Pattern.compile("x\\.(\\w+)\\((.*)\\); +// (throws \\w+|[-0-9.]+).*");
    private static final Check CHECK = new Check("ReadmeTest");

    private ReadmeTest() {
    }

    public static void main(String[] args) throws IOException, ReflectiveOperationException {
        String readme = Files.readString(Path.of("README.md"));
        namesEveryCall(readme);
        answersAsItSays(readme);
        CHECK.end();
    }

    private static void namesEveryCall(String readme) {
        for (Method method : FoldedVoices.class.getDeclaredMethods()) {
            if (Modifier.isPublic(method.getModifiers())) {
                CHECK.note(readme.contains("`" + method.getName() + "("), "README.md does not tell of " + method);
            }
        }
    }

    private static void answersAsItSays(String readme) throws ReflectiveOperationException {
        FoldedVoices x = new FoldedVoices();
        int calls = 0;
        for (String line : readme.split("\n")) {
            if (line.startsWith("x.")) {
                Matcher call = CALL.matcher(line);
                CHECK.note(call.matches(), "no answer is told: " + line);
                if (call.matches()) {
                    calls++;
                    CHECK.dueText("README.md, " + line + " answered", answer(x, call.group(1), call.group(2)), call.group(3));
                }
            }
        }
        CHECK.note(calls > 0, "README.md has no example");
    }

    private static String answer(FoldedVoices x, String name, String told) throws ReflectiveOperationException {
        String[] words = told.isEmpty() ? new String[0] : told.split(", ");
        Class<?>[] types = new Class<?>[words.length];
        Object[] values = new Object[words.length];
        for (int i = 0; i < words.length; i++) {
            types[i] = int.class;
            values[i] = words[i].startsWith("'") ? words[i].charAt(1) : Integer.parseInt(words[i]);
        }
        try {
            return String.valueOf(FoldedVoices.class.getMethod(name, types).invoke(x, values));
        } catch (InvocationTargetException e) {
            return "throws " + e.getCause().getClass().getSimpleName();
        }
    }
}
