import java.io.IOException;
import java.nio.file.Files;
import java.nio.file.Path;
import java.util.regex.Matcher;
import java.util.regex.Pattern;

/** What LANGUAGE.md rules out and a plain look can find does not stand in the class. */
final class LanguageTest {
    public static void main(String[] args) throws IOException {
        String source = Files.readString(Path.of(args.length > 0 ? args[0] : "src/main/java/EvenTown.java"));
        String code = source.replaceAll("(?s)/\\*.*?\\*/", "").replaceAll("//.*", "");
        for (String word : new String[] {"throw", "throws", "try", "catch", "synchronized", "assert", "package",
            "protected", "yield", "Exact", "hashCode", "toString", "Object", "System\\.(?!arraycopy)", "Random", "Thread",
            "var", "volatile"}) {
            none("\\b" + word + (word.endsWith(")") ? "" : "\\b"), code);
        }
        none("->", code);
        none("::", code);
        none("\" *\\+|\\+ *\"", code);
        none("[^\\x00-\\x7f]", code);
        none("static int [a-z]\\w*( =|;)", code);
        Matcher imports = Pattern.compile("import ([\\w.]+);").matcher(code);
        while (imports.find()) {
            Check.due("import " + imports.group(1), imports.group(1).equals("java.util.Arrays"), true);
        }
        none("private (static )?[\\w\\[\\]]+ (feed|end|town|plan|fault|minutes|right|judge|value|best|bestAt|breaks|spare|"
                + "often|built|meet|mend|where|send|strike|count|untell|later|states|sure|image|back|about)\\(", code);
        Matcher open = Pattern.compile("(?m)^    public ").matcher(code);
        int faces = 0;
        while (open.find()) {
            faces++;
        }
        Check.due("public members: 28 methods, a constructor, 2 constants", faces, 31);
        Check.close();
    }

    private static void none(String pattern, String code) {
        Matcher matcher = Pattern.compile(pattern).matcher(code);
        Check.due("the class has " + pattern, matcher.find(), false);
    }

    private LanguageTest() {
    }
}
