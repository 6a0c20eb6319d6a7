import java.io.IOException;
import java.nio.file.Files;
import java.nio.file.Path;
import java.util.HashSet;
import java.util.List;
import java.util.Set;
import java.util.regex.Matcher;
import java.util.regex.Pattern;

/** What of LANGUAGE.md can be seen in the text of the class by simple means. */
public final class LanguageTest {
    private static final String[] FORBIDDEN = {"->", "::", "\\bfinally\\b", "\\bassert\\b", "\\bsynchronized\\b", "\\btry\\b",
        "\\bcatch\\b", "Exact\\(", "\\bvar\\b", "\\bpackage\\b", "\\bnative\\b", "\\bvolatile\\b", "\\btransient\\b",
        "\\bObject\\b", "\\bhashCode\\b", "\\btoString\\b", "\\bordinal\\b", "\\bdouble\\b", "\\bfloat\\b", "\\bstrictfp\\b",
        "\\[\\]\\[\\]", "static\\s*\\{", "while\\s*\\(true\\)", "\"\\s*\\+", "\\+\\s*\"", "@"};
    private static final Set<String> LIBRARY = Set.of("Arrays.copyOf", "Arrays.fill", "System.arraycopy", "Math.min",
            "Math.max", "Integer.bitCount");

    public static void main(String[] args) throws IOException {
        String source = Files.readString(Path.of("src/main/java/LitmusTester.java"));
        for (int i = 0; i < source.length(); i++) {
            Check.yes("ASCII at " + i, source.charAt(i) < 128);
        }
        String code = source.replaceAll("(?s)/\\*.*?\\*/", "").replaceAll("//[^\n]*", "");
        for (String forbidden : FORBIDDEN) {
            Check.no(forbidden, Pattern.compile(forbidden).matcher(code).find());
        }
        imports(code);
        library(code);
        exceptions(code);
        methods(code);
        Check.end();
    }

    private static void imports(String code) {
        List<String> imports = code.lines().filter(line -> line.startsWith("import")).toList();
        Check.equal("imports", imports, List.of("import java.util.Arrays;", "import java.util.NoSuchElementException;"));
    }

    private static void library(String code) {
        Matcher matcher = Pattern.compile("\\b(Arrays|System|Math|Integer|Long|List|ArrayList)\\.\\w+").matcher(code);
        Set<String> others = new HashSet<>();
        while (matcher.find()) {
            others.add(matcher.group());
        }
        others.removeAll(LIBRARY);
        others.removeIf(name -> code.contains("java.util." + name));
        Check.equal("other functions of the library", others, Set.of());
    }

    private static void exceptions(String code) {
        Matcher matcher = Pattern.compile("\\bthrow\\b[^;]*;").matcher(code);
        int found = 0;
        while (matcher.find()) {
            found++;
            Check.yes(matcher.group(), matcher.group().matches(
                    "throw new (IllegalState|IllegalArgument|IndexOutOfBounds|NoSuchElement)Exception\\((\"[a-z ]*\")?\\);"));
        }
        Check.yes("some are thrown", found > 5);
    }

    /** Some sixty lines and seven parameters are the most. */
    private static void methods(String code) {
        String[] lines = code.split("\n");
        Pattern head = Pattern.compile("^( {4}| {8})(?! )[\\w\\[\\]<>. ]+ \\w+\\(([^)]*)\\).*\\{$");
        int found = 0;
        for (int i = 0; i < lines.length; i++) {
            Matcher matcher = head.matcher(lines[i]);
            if (matcher.find() && !lines[i].contains(" new ") && !lines[i].trim().matches("(if|for|while|switch|else|}).*")) {
                found++;
                int end = i;
                while (end < lines.length && !lines[end].equals(matcher.group(1) + "}")) {
                    end++;
                }
                Check.yes(lines[i].trim() + " is short", end - i <= 60);
                Check.yes(lines[i].trim() + " has few parameters", matcher.group(2).split(",").length <= 7);
            }
        }
        Check.yes("methods are found", found > 100);
    }
}
