import java.nio.charset.StandardCharsets;
import java.nio.file.Files;
import java.nio.file.Path;
import java.util.regex.Matcher;
import java.util.regex.Pattern;

/** Rules of LANGUAGE.md that can be seen in the text of the class, and that nothing is made but by constructors. */
public final class LanguageTest {
    private static final String[] REFUSED = {
        "\\b(import|package|throw|throws|try|catch|finally|synchronized|assert|protected|native|volatile|transient)\\b",
        "->", "::", "\\bstatic\\s*\\{", "Exact\\b", "\\b(Object|Thread|System\\.(?!arraycopy)\\w+|Random|Exception)\\b",
        "\\bInteger\\.[A-Z]", "\\b(hashCode|toString|equals)\\b",
    };
    private static final Pattern MEMBER =
            Pattern.compile("(?m)^( +)(?:public |private |static |final )*(?:(\\w+(?:\\[\\])?) )?(\\w+)\\(([^)]*)\\) \\{$");

    public static void main(String[] args) throws Exception {
        byte[] bytes = Files.readAllBytes(Path.of("src/main/java/ScandalCounter.java"));
        String source = new String(bytes, StandardCharsets.ISO_8859_1);
        for (byte b : bytes) {
            Due.due("a sign of the source is ASCII", b >= 0 ? 1 : 0, 1);
        }
        String code = source.replaceAll("(?s)/\\*.*?\\*/|//[^\n]*", "").replaceAll("\"[^\"\n]*\"", "\"\"");
        for (String refused : REFUSED) {
            Matcher matcher = Pattern.compile(refused).matcher(code);
            Due.due("refused: " + refused, matcher.find() ? 1 : 0, 0);
        }
        members(code);
        Due.end();
    }

    private static void members(String code) {
        Matcher member = MEMBER.matcher(code);
        int made = 0;
        while (member.find()) {
            String indent = member.group(1);
            if (member.group(2) == null && member.group(3).matches("if|for|while|switch")) {
                continue;
            }
            int end = code.indexOf("\n" + indent + "}", member.end());
            String body = code.substring(member.end(), end);
            Due.due(member.group(3) + " is short", body.split("\n").length <= 60 ? 1 : 0, 1);
            Due.due(member.group(3) + " has at most seven parameters", member.group(4).split(",").length <= 7 ? 1 : 0, 1);
            boolean isConstructor = member.group(2) == null || member.group(2).equals("public");
            int news = body.split("\\bnew\\b", -1).length - 1;
            Due.due(member.group(3) + " makes nothing, or is a constructor", isConstructor ? 0 : news, 0);
            made += news;
        }
        Due.due("all that is made was seen", made, code.split("\\bnew\\b", -1).length - 1);
    }
}
