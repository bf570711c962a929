import java.nio.file.Files;
import java.nio.file.Path;
import java.util.regex.Pattern;

/** What can be told of LANGUAGE.md by a look at the lines of the class. */
public final class LanguageTest {
    private static final String[] RULED_OUT = {
        "\\bthrow\\b", "\\btry\\b", "\\bcatch\\b", "\\bsynchronized\\b", "\\bassert\\b", "->", "::",
        "\\bimport\\b", "\\bpackage\\b", "static \\{", "Exact\\(", "\\bdouble\\b", "\\bfloat\\b",
        "\\bprotected\\b", "\\bSystem\\.(?!arraycopy)", "\\bThread\\b", "[^0-9a-zA-Z]/[^0-9a-zA-Z]", "%"
    };
    private static final Pattern MADE_IN_A_FIELD =
        Pattern.compile(" +(private )?(final )?[A-Za-z]+(\\[\\])? [a-z][A-Za-z]* = new [^;]*;");

    public static void main(String[] args) throws Exception {
        int number = 0;
        for (String line : Files.readAllLines(Path.of("src/main/java/HostYear.java"))) {
            number++;
            String code = line.replaceAll("^ */?\\*.*|//.*", "");
            for (String ruledOut : RULED_OUT) {
                boolean found = Pattern.compile(ruledOut).matcher(code).find();
                Check.due("line " + number + " has " + ruledOut, found, false);
            }
            // All calls of a run live in one room: objects are made with the object, never by a call.
            boolean makes = code.contains("new ");
            Check.due("line " + number + " makes an object in a call",
                makes && !MADE_IN_A_FIELD.matcher(code).matches(), false);
            Check.due("line " + number + " is longer than 120", line.length() > 120, false);
        }
        Check.end("LanguageTest");
    }
}
