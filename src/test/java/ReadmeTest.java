import java.lang.reflect.Method;
import java.lang.reflect.Modifier;
import java.nio.charset.StandardCharsets;
import java.nio.file.Files;
import java.nio.file.Path;
import java.util.TreeSet;
import java.util.regex.Matcher;
import java.util.regex.Pattern;

/** README.md tells the truth: each call of its example answers what stands behind it, and its tables leave nothing out. */
public final class ReadmeTest {
    private static final Pattern CALL = Pattern.compile("(?m)^counter\\.(\\w+)\\((.*?)\\); +// (-?\\d+)(?:: .*)?$");

    public static void main(String[] args) throws Exception {
        String readme = new String(Files.readAllBytes(Path.of("README.md")), StandardCharsets.UTF_8);
        example(readme);
        everyCallIsTold(readme);
        everyTestIsTold(readme);
        Due.end();
    }

    private static void example(String readme) throws Exception {
        ScandalCounter counter = new ScandalCounter();
        Matcher call = CALL.matcher(readme);
        int calls = 0;
        while (call.find()) {
            String[] written = call.group(2).isEmpty() ? new String[0] : call.group(2).split(", ");
            Class<?>[] types = new Class<?>[written.length];
            Object[] values = new Object[written.length];
            for (int i = 0; i < written.length; i++) {
                types[i] = int.class;
                values[i] = Integer.decode(written[i]);
            }
            Method method = ScandalCounter.class.getMethod(call.group(1), types);
            long got = ((Number) method.invoke(counter, values)).longValue();
            Due.due("README.md: " + call.group(), got, Long.parseLong(call.group(3)));
            calls++;
        }
        Due.due("README.md: each call of the example has its answer", calls, readme.split("\ncounter\\.", -1).length - 1);
    }

    private static void everyCallIsTold(String readme) {
        for (Method method : ScandalCounter.class.getDeclaredMethods()) {
            if (Modifier.isPublic(method.getModifiers())) {
                Due.due("README.md tells of " + method.getName(), readme.contains("`" + method.getName() + "`") ? 1 : 0, 1);
            }
        }
    }

    private static void everyTestIsTold(String readme) throws Exception {
        TreeSet<String> untold = new TreeSet<>();
        try (var files = Files.list(Path.of("src/test/java"))) {
            files.map(file -> file.getFileName().toString().replace(".java", ""))
                    .filter(name -> name.endsWith("Test") && !readme.contains(name)).forEach(untold::add);
        }
        Due.due("README.md does not tell of " + untold, untold.size(), 0);
    }
}
