import java.io.IOException;
import java.nio.file.Files;
import java.nio.file.Path;
import java.util.regex.Matcher;
import java.util.regex.Pattern;

/** What of ../shared/LANGUAGE.md can be seen in the text of the class. */
final class LanguageTest {
    private static final String[] NEVER = {"throw", "throws", "try", "catch", "finally", "assert", "synchronized",
        "->", "::", "package", "protected", "instanceof", "volatile", "transient", "native", "Object", "Exact",
        "System\\.(?!arraycopy)", "Math\\.(?!min|max)", "Arrays\\.(?!fill)", "static \\{", "float", "double",
        "\\bequals\\b", "hashCode", "toString", "String\\b", "@"};

    public static void main(String[] args) throws IOException {
        Check c = new Check("LanguageTest");
        String source = Files.readString(Path.of("src/main/java/StairsThatGo.java"));
        for (int i = 0; i < source.length(); i++) {
            if (source.charAt(i) > 126) {
                c.holds("a sign beyond 126 at " + i, false);
            }
        }
        String code = source.replaceAll("(?s)/\\*.*?\\*/", "").replaceAll("//[^\n]*", "")
            .replaceAll("\"[^\"\n]*\"", "\"\"");
        for (String word : NEVER) {
            String found = word.matches("\\w+") ? "\\b" + word + "\\b" : word;
            if (word.equals("Exact")) {
                found = "Exact\\b";
            }
            c.holds("no " + word, !Pattern.compile(found).matcher(code).find());
        }
        Matcher imports = Pattern.compile("import ([\\w.*]+);").matcher(code);
        while (imports.find()) {
            c.holds("import of " + imports.group(1), imports.group(1).equals("java.util.Arrays"));
        }
        int classes = 0;
        Matcher kinds = Pattern.compile("(?m)^( *)([\\w ]*)class \\w+").matcher(code);
        while (kinds.find()) {
            classes++;
            c.holds("class '" + kinds.group() + "'",
                kinds.group(2).equals(kinds.group(1).isEmpty() ? "public final " : "private static final "));
        }
        c.holds("classes: " + classes, classes <= 12);
        methods(c, code);
        c.end();
    }

    private static void methods(Check c, String code) {
        String[] lines = code.split("\n", -1);
        Pattern head = Pattern.compile("^( {4}| {8})(?! )[\\w\\[\\] ]*\\w\\((.*)\\) \\{$");
        int seen = 0;
        for (int i = 0; i < lines.length; i++) {
            Matcher m = head.matcher(lines[i]);
            if (m.matches() && !lines[i].matches(" *(if|for|while|switch) .*")) {
                int end = i;
                while (end < lines.length && !lines[end].equals(m.group(1) + "}")) {
                    end++;
                }
                seen++;
                c.holds("lines of '" + lines[i].strip() + "': " + (end - i), end - i < 60);
                c.holds("parameters of '" + lines[i].strip() + "'", m.group(2).split(",").length <= 7);
            }
        }
        c.holds("methods seen: " + seen, seen > 100);
    }
}
