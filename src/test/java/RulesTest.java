import java.io.IOException;
import java.nio.file.Files;
import java.nio.file.Path;
import java.util.ArrayList;
import java.util.List;
import java.util.regex.Matcher;
import java.util.regex.Pattern;

/** Those rules of LANGUAGE.md that can be seen in the text of the source. */
public final class RulesTest {
    private static final String[] BANNED = {
        "throw", "throws", "try", "catch", "finally", "synchronized", "assert", "protected", "volatile", "transient",
        "native", "package", "Object", "Random", "System\\.(?!arraycopy)", "Thread", "->", "::", "hashCode", "toString",
        "[a-z]+Exact", "var", "yield", "static \\{"};
    private static final int LONGEST_METHOD = 60;
    private static final int MOST_CLASSES = 12;
    private static final int MOST_PARAMETERS = 7;

    private RulesTest() {
    }

    public static void main(String[] args) throws IOException {
        String source = Files.readString(Path.of("src/main/java/NameNets.java"));
        for (int i = 0; i < source.length(); i++) {
            Check.isTrue("sign " + i + " is plain", source.charAt(i) == '\n' || source.charAt(i) >= 32 && source.charAt(i) < 127);
        }
        String code = source.replaceAll("(?s)/\\*.*?\\*/", "").replaceAll("//[^\n]*", "");
        for (String word : BANNED) {
            Check.isTrue("'" + word + "' is not in the code", !Pattern.compile("(?<![A-Za-z])" + word + "(?![A-Za-z])").matcher(code).find());
        }
        Matcher imports = Pattern.compile("import ([^;]*);").matcher(code);
        while (imports.find()) {
            Check.isTrue("import of " + imports.group(1), imports.group(1).equals("java.util.Arrays"));
        }
        Check.isTrue("at most twelve classes", count(code, "\\b(class|record|enum|interface) [A-Z]") <= MOST_CLASSES);
        Check.due("no class inside but static", count(code, "(?<!static )final class") - 1, 0);
        lookAtMethods(source.split("\n"));
        Check.finish();
    }

    private static int count(String code, String pattern) {
        Matcher matcher = Pattern.compile(pattern).matcher(code);
        int found = 0;
        while (matcher.find()) {
            found++;
        }
        return found;
    }

    private static void lookAtMethods(String[] rows) {
        List<String> heads = new ArrayList<>();
        Pattern head = Pattern.compile("^( {4}| {8})[A-Za-z][A-Za-z\\[\\] ]*\\(([^)]*)\\) \\{$");
        for (int i = 0; i < rows.length; i++) {
            Matcher matcher = head.matcher(rows[i]);
            if (!matcher.matches() || rows[i].trim().matches("(if|for|while|switch|} else).*")) {
                continue;
            }
            heads.add(rows[i]);
            int end = i;
            while (end < rows.length && !rows[end].equals(matcher.group(1) + "}")) {
                end++;
            }
            Check.isTrue("too long: " + rows[i].trim(), end - i < LONGEST_METHOD);
            Check.isTrue("too many parameters: " + rows[i].trim(), matcher.group(2).split(",").length <= MOST_PARAMETERS);
        }
        Check.isTrue("methods were found", heads.size() > 60);
    }
}
