import java.io.IOException;
import java.nio.file.Files;
import java.nio.file.Path;
import java.util.regex.Matcher;
import java.util.regex.Pattern;

/** Rules of the language that can be seen in the text of the program. */
public final class FormTest {
    private static final String[] RULED_OUT = {
        "\\bimport\\b", "\\bpackage\\b", "->", "::", "\\btry\\b", "\\bcatch\\b", "\\bfinally\\b", "\\bsynchronized\\b",
        "\\bassert\\b", "\\binstanceof\\b", "\\bprotected\\b", "\\bInteger\\b", "\\bLong\\b", "\\bDouble\\b",
        "\\bFloat\\b", "\\bObject\\b", "\\bThread\\b", "\\bRandom\\b", "\\bequals\\b", "\\bhashCode\\b", "\\btoString\\b",
        "\\bvar\\b", "\\bnative\\b", "\\bvolatile\\b", "\\bextends\\b", "\\bimplements\\b", "\\bwhile\\b", "Exact\\b",
        "static\\s*\\{", "System\\.(?!arraycopy)", "Math\\.(?!min|max|abs)", "@"};
    private static final Check CHECK = new Check("FormTest");

    private FormTest() {
    }

    public static void main(String[] args) throws IOException {
        String source = Files.readString(Path.of(args[0]));
        String code = source.replaceAll("(?s)/\\*.*?\\*/", " ").replaceAll("//[^\n]*", " ");
        for (String one : RULED_OUT) {
            Matcher matcher = Pattern.compile(one).matcher(code);
            CHECK.note(!matcher.find(), "the program has " + one);
        }
        throwsOnlyWhatIsAllowed(code);
        makesObjectsInConstructorsAlone(code);
        CHECK.note(source.chars().allMatch(sign -> sign == '\n' || sign >= 32 && sign <= 126), "other signs");
        CHECK.end();
    }

    private static void throwsOnlyWhatIsAllowed(String code) {
        Matcher matcher = Pattern.compile("\\bthrow\\b(.*?);").matcher(code);
        while (matcher.find()) {
            CHECK.note(matcher.group(1).matches(
                    " new (IllegalState|IllegalArgument|IndexOutOfBounds)Exception\\(\"[^\"]*\"\\)"),
                    "the program throws" + matcher.group(1));
        }
    }

    // All calls of a run share one room, so no call but a constructor's makes rows or objects.
    private static void makesObjectsInConstructorsAlone(String code) {
        Matcher matcher = Pattern.compile("[^\n]*\\bnew (\\w+)[^\n]*").matcher(code);
        while (matcher.find()) {
            String line = matcher.group().trim();
            boolean isField = line.startsWith("private final ");
            boolean isThrown = line.startsWith("throw ");
            boolean isRow = line.matches("(saved|wire|voices)\\[i\\] = new (State|Packet|Voice)\\(\\);");
            CHECK.note(isField || isThrown || isRow, "the program makes an object: " + line);
        }
    }
}
