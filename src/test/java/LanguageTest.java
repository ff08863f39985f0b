import java.nio.file.Files;
import java.nio.file.Path;
import java.util.regex.Matcher;
import java.util.regex.Pattern;

/** What can be seen of LANGUAGE.md in the program's text: words that it rules out, lengths of methods. */
public final class LanguageTest {
    private static final Path PROGRAM = Path.of("src", "main", "java", "DropChase.java");
    private static final String[] RULED_OUT = {
        "\\b(throw|throws|try|catch|finally|synchronized|assert|package|import|var|yield|native|volatile)\\b",
        "->", "::", "\\bstatic\\s*\\{", "\\bSystem\\.(?!arraycopy\\b)", "\\bMath\\.\\w*Exact\\b", "\\bInteger\\.[A-Z]",
        "\\bThread\\b", "\\bRandom\\b", "\\bObject\\b", "\\b(hashCode|toString|getClass)\\b", "\"\\s*\\+|\\+\\s*\""};

    public static void main(String[] args) throws Exception {
        String source = Files.readString(PROGRAM);
        String code = source.replaceAll("(?s)/\\*.*?\\*/", " ").replaceAll("//[^\n]*", "").replaceAll("'.'", "0");
        for (String words : RULED_OUT) {
            Matcher m = Pattern.compile(words).matcher(code);
            Due.due(0, "LANGUAGE.md: " + (m.find() ? m.group() : words), m.reset().find() ? 1 : 0, 0);
        }
        methodsAreShort(source);
        Due.end();
    }

    private static void methodsAreShort(String source) {
        Pattern head = Pattern.compile("^( {4}| {8})\\S.*\\) \\{$");
        String indent = null;
        int length = 0;
        String name = "";
        for (String line : source.split("\n")) {
            Matcher m = head.matcher(line);
            if (indent == null && m.matches()) {
                indent = m.group(1);
                name = line.trim();
                length = 0;
            }
            length++;
            if (indent != null && line.equals(indent + "}")) {
                Due.due(0, "LANGUAGE.md, rule 11: " + name + " of " + length + " lines", length <= 60 ? 1 : 0, 1);
                indent = null;
            }
        }
    }
}
