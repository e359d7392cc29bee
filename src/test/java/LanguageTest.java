import java.nio.charset.StandardCharsets;
import java.nio.file.Files;
import java.nio.file.Path;
import java.util.ArrayList;
import java.util.HashMap;
import java.util.List;
import java.util.Map;
import java.util.regex.Matcher;
import java.util.regex.Pattern;

/**
 * Rules of LANGUAGE.md that can be seen in the text of the class, that nothing is made but by constructors, and how
 * deep calls go.
 */
public final class LanguageTest {
    private static final String[] REFUSED = {
        "\\b(import|package|throw|throws|try|catch|finally|synchronized|assert|protected|native|volatile|transient)\\b",
        "->", "::", "\\bstatic\\s*\\{", "Exact\\b", "\\b(Object|Thread|System\\.(?!arraycopy)\\w+|Random|Exception)\\b",
        "\\bInteger\\.[A-Z]", "\\b(hashCode|toString|equals)\\b",
    };
    private static final Pattern MEMBER =
            Pattern.compile("(?m)^( +)(?:public |private |static |final )*(?:(\\w+(?:\\[\\])?) )?(\\w+)\\(([^)]*)\\) \\{$");

    public static void main(String[] args) throws Exception {
        byte[] bytes = Files.readAllBytes(Path.of("src/main/java/ScandalCounter.java"));
        String source = new String(bytes, StandardCharsets.ISO_8859_1);
        for (byte b : bytes) {
            Due.due("a sign of the source is ASCII", b >= 0 ? 1 : 0, 1);
        }
        String code = source.replaceAll("(?s)/\\*.*?\\*/|//[^\n]*", "").replaceAll("\"[^\"\n]*\"", "\"\"");
        for (String refused : REFUSED) {
            Matcher matcher = Pattern.compile(refused).matcher(code);
            Due.due("refused: " + refused, matcher.find() ? 1 : 0, 0);
        }
        members(code);
        depth(code);
        Due.end();
    }

    private static void members(String code) {
        Matcher member = MEMBER.matcher(code);
        int made = 0;
        while (member.find()) {
            String indent = member.group(1);
            if (member.group(2) == null && member.group(3).matches("if|for|while|switch")) {
                continue;
            }
            int end = code.indexOf("\n" + indent + "}", member.end());
            String body = code.substring(member.end(), end);
            Due.due(member.group(3) + " is short", body.split("\n").length <= 60 ? 1 : 0, 1);
            Due.due(member.group(3) + " has at most seven parameters", member.group(4).split(",").length <= 7 ? 1 : 0, 1);
            boolean isConstructor = member.group(2) == null || member.group(2).equals("public");
            int news = body.split("\\bnew\\b", -1).length - 1;
            Due.due(member.group(3) + " makes nothing, or is a constructor", isConstructor ? 0 : news, 0);
            made += news;
        }
        Due.due("all that is made was seen", made, code.split("\\bnew\\b", -1).length - 1);
    }

    private static void depth(String code) {
        Map<String, List<String>> calls = callsByName(code);
        for (String name : calls.keySet()) {
            Due.due("calls below " + name + " go at most eight deep", deepest(name, calls, 1) <= 8 ? 1 : 0, 1);
        }
    }

    /** By names alone, so methods of one name count as one: it may tell too deep, but never too little. */
    private static Map<String, List<String>> callsByName(String code) {
        Map<String, List<String>> calls = new HashMap<>();
        Matcher member = MEMBER.matcher(code);
        while (member.find()) {
            if (member.group(2) == null) {
                continue;
            }
            int end = code.indexOf("\n" + member.group(1) + "}", member.end());
            Matcher call = Pattern.compile("(\\w+)\\(").matcher(code.substring(member.end(), end));
            List<String> called = calls.computeIfAbsent(member.group(3), name -> new ArrayList<>());
            while (call.find()) {
                boolean isWord = call.group(1).matches("if|for|while|switch|return");
                // County.become calls Person.become, which is no recursion.
                boolean isTwice = call.group(1).equals("become") && member.group(3).equals("become");
                if (!isWord && !isTwice && !called.contains(call.group(1))) {
                    called.add(call.group(1));
                }
            }
        }
        return calls;
    }

    private static int deepest(String name, Map<String, List<String>> calls, int depth) {
        int most = depth;
        // A chain that is already too deep (a recursion would be without end) is not followed further.
        for (String called : depth > 20 ? List.<String>of() : calls.getOrDefault(name, List.of())) {
            most = Math.max(most, deepest(called, calls, depth + 1));
        }
        return most;
    }
}
