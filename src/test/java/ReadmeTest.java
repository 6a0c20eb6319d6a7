import java.io.IOException;
import java.lang.reflect.Method;
import java.lang.reflect.Modifier;
import java.nio.file.DirectoryStream;
import java.nio.file.Files;
import java.nio.file.Path;
import java.util.Arrays;
import java.util.regex.Matcher;
import java.util.regex.Pattern;

/** README.md shows calls that answer as it says, and names every method and every test. */
public final class ReadmeTest {
    private static final Pattern TEXT = Pattern.compile("byte\\[\\] text = \"(.*)\"");
    private static final Pattern CALL = Pattern.compile("\ntester\\.(\\w+)\\(([0-9, ]*)\\); *// (-?[0-9]+)");

    public static void main(String[] args) throws IOException, ReflectiveOperationException {
        String page = Files.readString(Path.of("README.md"));
        example(page);
        for (Method method : LitmusTester.class.getDeclaredMethods()) {
            if (Modifier.isPublic(method.getModifiers())) {
                Check.yes(method.getName() + " is named", page.contains("`" + method.getName() + "`"));
            }
        }
        try (DirectoryStream<Path> tests = Files.newDirectoryStream(Path.of("src/test/java"), "*Test.java")) {
            for (Path test : tests) {
                String name = test.getFileName().toString().replace(".java", "");
                Check.yes(name + " is named", page.contains("| " + name + " |"));
            }
        }
        Check.end();
    }

    private static void example(String page) throws ReflectiveOperationException {
        Matcher text = TEXT.matcher(page);
        Check.yes("the example has a text", text.find());
        LitmusTester tester = new LitmusTester();
        Check.put(tester, text.group(1));
        Matcher calls = CALL.matcher(page);
        int made = 0;
        while (calls.find()) {
            int[] arguments = Arrays.stream(calls.group(2).split("[, ]+")).filter(one -> !one.isEmpty())
                    .mapToInt(Integer::parseInt).toArray();
            Class<?>[] types = new Class<?>[arguments.length];
            Arrays.fill(types, int.class);
            Object got = LitmusTester.class.getMethod(calls.group(1), types)
                    .invoke(tester, Arrays.stream(arguments).boxed().toArray());
            Check.equal(calls.group().trim(), String.valueOf(got), calls.group(3));
            made++;
        }
        Check.yes("the example has calls", made > 10);
    }
}
