import java.io.IOException;
import java.nio.file.Files;
import java.nio.file.Path;
import java.util.regex.Matcher;
import java.util.regex.Pattern;

/** Rules of LANGUAGE.md that can be seen in the text of the class. It is run in the project's folder. */
public final class LanguageTest {
    private static final Pattern METHOD = Pattern.compile(
            "^ {4,8}(?:(public|private) )?(?:static )?(?:final )?[\\w<>\\[\\]]+ (\\w+)\\(([^)]*)\\) \\{$", Pattern.MULTILINE);

    public static void main(String[] args) throws IOException {
        Due due = new Due("LanguageTest");
        String text = Files.readString(Path.of("src/main/java/LiquidTongue.java"));
        String code = text.replaceAll("(?s)/\\*.*?\\*/", "").replaceAll("//[^\n]*", "")
                .replaceAll("\"[^\"\n]*\"", "\"\"").replaceAll("'[^'\n]'", "' '");
        String[] never = {"throw", "throws", "try", "catch", "synchronized", "assert", "Exact", "double", "float", "protected",
            "package", "Random", "System\\.(?!arraycopy)", "hashCode", "toString", "->", "::"};
        for (String word : never) {
            due.is("uses of " + word, count("(?<!\\w)" + word + "(?!\\w)", code), 0);
        }
        due.is("imports", count("(?m)^import ", code), 2);
        due.is("import java.util.ArrayList", count("import java\\.util\\.ArrayList;", code), 1);
        due.is("import java.util.Arrays", count("import java\\.util\\.Arrays;", code), 1);
        due.is("no more than twelve classes inside", count("(?m)^ {4}private static final class ", code) <= 12, true);
        due.is("classes in all", count("\\bclass\\b", code), 1 + count("(?m)^ {4}private static final class ", code));
        methods(due, code);
        due.close();
    }

    private static int count(String pattern, String code) {
        Matcher matcher = Pattern.compile(pattern).matcher(code);
        int count = 0;
        while (matcher.find()) {
            count++;
        }
        return count;
    }

    private static void methods(Due due, String code) {
        String face = " feed end compile accepted place type out give element run value fuel ";
        Matcher matcher = METHOD.matcher(code);
        int faces = 0;
        while (matcher.find()) {
            String name = matcher.group(2);
            boolean isPublic = "public".equals(matcher.group(1));
            due.is(name + " is public if it is of the face", face.contains(" " + name + " "), isPublic);
            due.is(name + " has few parameters", matcher.group(3).split(",").length <= 7, true);
            String indent = code.substring(matcher.start(), matcher.end()).replaceAll("\\S.*", "").replace("\n", "");
            int end = code.indexOf("\n" + indent + "}\n", matcher.end());
            due.is(name + " is short", count("\n", code.substring(matcher.start(), end + 1)) <= 60, true);
            faces += isPublic ? 1 : 0;
        }
        due.is("methods of the face", faces, 12);
    }
}
