import java.nio.file.Files;
import java.nio.file.Path;
import java.util.ArrayList;
import java.util.List;
import java.util.regex.Matcher;
import java.util.regex.Pattern;

/** What of LANGUAGE.md can be seen in the text of the program. */
public final class LanguageTest {
    private static final String[] RULED_OUT = {
        "\\b(throw|throws|try|catch|finally|synchronized|assert|instanceof|volatile|transient|native|strictfp)\\b", "->",
        "::", "@", "\\bprotected\\b", "\\?\\s*>", "\\bObject\\b", "\\bSystem\\.(?!arraycopy)", "\\bArrays\\.(?!fill|copyOf)",
        "\\b\\w+Exact\\b", "\\bvar\\b", "\\b(equals|hashCode|toString)\\s*\\(", "\\bpackage\\b", "\\bThread\\b",
        "\\bstatic\\s*\\{", "\"\\s*\\+", "\\+\\s*\""
    };

    public static void main(String[] args) throws Exception {
        String text = Files.readString(Path.of("src/main/java/HadForVoice.java"));
        String code = text.replaceAll("(?s)/\\*.*?\\*/", "").replaceAll("//[^\n]*", "");
        List<String> wrong = new ArrayList<>();
        for (String pattern : RULED_OUT) {
            Matcher found = Pattern.compile(pattern).matcher(code);
            if (found.find()) {
                wrong.add("ruled out: " + found.group());
            }
        }
        if (!text.chars().allMatch(c -> c == '\n' || c >= 32 && c < 127)) {
            wrong.add("a sign that isn't plain");
        }
        Matcher imports = Pattern.compile("import ([^;]*);").matcher(code);
        while (imports.find()) {
            if (!imports.group(1).matches("java\\.util\\.(Arrays|ArrayList|List|Iterator)")) {
                wrong.add("import " + imports.group(1));
            }
        }
        int classes = count("\\bclass \\w+", code);
        if (classes > 12) {
            wrong.add(classes + " classes");
        }
        Matcher statics = Pattern.compile("\n\\s+(public |private )?static (?!final )[^;{(]*;").matcher(code);
        if (statics.find()) {
            wrong.add("a static field that isn't final:" + statics.group());
        }
        names(code, wrong);
        methods(code, wrong);
        wrong.forEach(System.out::println);
        System.out.println(wrong.size() + " places outside the language");
        if (!wrong.isEmpty()) {
            System.exit(1);
        }
    }

    private static int count(String pattern, String code) {
        return (int) Pattern.compile(pattern).matcher(code).results().count();
    }

    /** No method but a public one bears the name of a public one. */
    private static void names(String code, List<String> wrong) {
        List<String> face = new ArrayList<>();
        Matcher method = Pattern.compile("\n +(public )?(?:private )?(?:static )?[\\w\\[\\]]+ (\\w+)\\([^;)]*\\) \\{").matcher(code);
        List<String> others = new ArrayList<>();
        while (method.find()) {
            (method.group(1) != null ? face : others).add(method.group(2));
        }
        for (String name : others) {
            if (face.contains(name)) {
                wrong.add("the name of a public method: " + name);
            }
        }
        if (face.size() != 53) {
            wrong.add(face.size() + " public methods");
        }
    }

    private static void methods(String code, List<String> wrong) {
        int lines = 0;
        for (String line : code.split("\n")) {
            lines = line.matches(" {4}( {4})?\\}") ? 0 : line.matches(" {4}( {4})?[a-z].*\\) \\{") ? 1 : lines + 1;
            if (lines == 61) {
                wrong.add("a long method up to: " + line);
            }
            if (line.length() > 120) {
                wrong.add("a long line: " + line);
            }
        }
    }
}
