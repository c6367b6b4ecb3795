import java.nio.file.Files;
import java.nio.file.Path;
import java.util.List;
import java.util.regex.Matcher;
import java.util.regex.Pattern;

/** Those rules of LANGUAGE.md that can be seen by reading the lines. */
public final class SourceTest {
    private static int wrong = 0;

    private static void refuse(String why) {
        wrong++;
        System.out.println(why);
    }

    public static void main(String[] args) throws Exception {
        String all = Files.readString(Path.of("src/main/java/SnowRises.java"));
        String code = all.replaceAll("(?s)/\\*.*?\\*/", "").replaceAll("//[^\n]*", "");
        if (Pattern.compile("\"\\s*\\+|\\+\\s*\"").matcher(code).find()) {
            refuse("rule 10: texts joined by +");
        }
        code = code.replaceAll("\"[^\"\n]*\"", "\"\"").replaceAll("'[^'\n]'", "' '");
        for (String word : List.of("throw", "throws", "try", "catch", "synchronized", "assert", "import", "package", "protected", "Object",
            "System.out", "hashCode", "toString", "Exact", "volatile", "native", "strictfp", "instanceof", "var")) {
            if (Pattern.compile("\\b" + Pattern.quote(word) + "\\b").matcher(code).find()) {
                refuse("found '" + word + "'");
            }
        }
        for (String sign : List.of("->", "::", "@")) {
            if (code.contains(sign)) {
                refuse("found '" + sign + "'");
            }
        }
        Matcher statics = Pattern.compile("static (?!final )[^({;]*[;=]").matcher(code);
        if (statics.find()) {
            refuse("rule 5: " + statics.group());
        }
        String[] lines = code.split("\n");
        Pattern head = Pattern.compile("^( {4}| {8})(public |private |static |final )*[A-Za-z\\[\\]]+ ?[A-Za-z]*\\(([^)]*)\\) \\{$");
        for (int i = 0; i < lines.length; i++) {
            Matcher m = head.matcher(lines[i]);
            if (!m.matches()) {
                continue;
            }
            int end = i;
            while (end < lines.length && !lines[end].equals(m.group(1) + "}")) {
                end++;
            }
            if (end - i + 1 > 60) {
                refuse("rule 11: " + (end - i + 1) + " lines: " + lines[i].trim());
            }
            if (m.group(3).split(",").length > 7) {
                refuse("rule 11: parameters: " + lines[i].trim());
            }
        }
        for (int i = 0; i < all.length(); i++) {
            if (all.charAt(i) > 126) {
                refuse("a sign beyond 126 at " + i);
            }
        }
        System.out.println(wrong == 0 ? "the source is as the rules tell" : wrong + " places are not as the rules tell");
        if (wrong != 0) {
            System.exit(1);
        }
    }
}
