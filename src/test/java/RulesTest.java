import java.io.IOException;
import java.nio.file.Files;
import java.nio.file.Path;
import java.util.regex.Matcher;
import java.util.regex.Pattern;

/** What of LANGUAGE.md can be seen in the text of the program; its path comes as the argument. */
public final class RulesTest {
    private static final String[] WORDS = {"throw", "throws", "try", "catch", "finally", "synchronized", "assert",
        "protected", "package", "Object", "hashCode", "Thread", "Random"};
    private static final String[] SIGNS = {"::", "Exact(", "System.out", "System.err", "System.exit", "System.nano",
        "System.current", "System.get", "System.identity"};

    public static void main(String[] args) throws IOException {
        String path = args.length > 0 ? args[0] : "src/main/java/OpensLikeThat.java";
        String text = Files.readString(Path.of(path));
        for (int i = 0; i < text.length(); i++) {
            if (text.charAt(i) > 126) {
                Check.due("a sign beyond 126 at " + i, 0, text.charAt(i));
            }
        }
        String code = text.replaceAll("(?s)/\\*.*?\\*/", "").replaceAll("//[^\n]*", "");
        for (String word : WORDS) {
            Check.due("the word " + word, 0, Pattern.compile("\\b" + Pattern.quote(word) + "\\b").matcher(code).find() ? 1 : 0);
        }
        for (String sign : SIGNS) {
            Check.due("the sign " + sign, 0, code.contains(sign) ? 1 : 0);
        }
        for (String line : code.split("\n")) {
            boolean lambda = line.contains("->") && !line.trim().matches("(case .*|default) ->.*");
            Check.due("a lambda: " + line, 0, lambda ? 1 : 0);
            boolean strange = line.startsWith("import ") && !line.matches("import java\\.util\\.(ArrayList|List|Arrays|Iterator);");
            Check.due("an outside name: " + line, 0, strange ? 1 : 0);
        }
        Matcher inside = Pattern.compile("\\b(class|interface|enum|record) (\\w+)").matcher(code);
        int classes = 0;
        while (inside.find()) {
            classes++;
        }
        Check.due("classes: " + classes, 1, classes <= 12 ? 1 : 0);
        methods(code);
        Check.end();
    }

    private static void methods(String code) {
        String[] lines = code.split("\n");
        Pattern head = Pattern.compile("^( {4}| {8})(?!.*\\b(class|new|return)\\b)\\w.*\\((.*)\\) \\{$");
        for (int i = 0; i < lines.length; i++) {
            Matcher m = head.matcher(lines[i]);
            if (!m.find() || lines[i].trim().matches("(if|for|while|switch|do|else|\\}).*")) {
                continue;
            }
            int end = i;
            while (end < lines.length - 1 && !lines[end].equals(m.group(1) + "}")) {
                end++;
            }
            Check.due("lines of " + lines[i].trim(), 1, end - i <= 60 ? 1 : 0);
            Check.due("parameters of " + lines[i].trim(), 1, m.group(3).split(",").length <= 7 ? 1 : 0);
        }
    }
}
