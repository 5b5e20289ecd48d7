import java.nio.file.Files;
import java.nio.file.Path;
import java.util.regex.Matcher;
import java.util.regex.Pattern;

/** The rules of LANGUAGE.md that a search through the source can see. Runs in the project's directory. */
public final class LanguageTest {
    private static final String[] NEVER = {
        "\\b(throw|throws|try|catch|finally|synchronized|assert|import|package|var|volatile|transient|native)\\b",
        "->", "::", "\\bstatic\\s*\\{", "Exact\\b", "\"", "\\?\\s*extends", "@",
        "\\b(hashCode|toString|equals|Object|Thread|Random|getClass|currentTimeMillis|nanoTime)\\b",
        "System\\.(?!arraycopy\\b)", "\\bwhile\\s*\\(\\s*true", "for\\s*\\(\\s*;", "\\bprotected\\b",
        // rule 12, a constructor hands out nothing of what it makes: so none is given anything
        "\\bnew\\s+[A-Z]\\w*\\s*\\([^)]", "\\bthis\\b"};

    public static void main(String[] args) throws Exception {
        String source = Files.readString(Path.of("src/main/java/LassoPaths.java"));
        Check.that("signs are 1 to 127", source.chars().allMatch(c -> c >= 1 && c <= 127));
        String code = source.replaceAll("(?s)/\\*.*?\\*/", "").replaceAll("//[^\n]*", "");
        for (String never : NEVER) {
            Matcher found = Pattern.compile(never).matcher(code);
            boolean any = found.find();
            Check.that(never + " is not in the source" + (any ? ": " + found.group() : ""), !any);
        }
        lengths(code);
        Check.end();
    }

    /** A method stays under some sixty lines and seven parameters. */
    private static void lengths(String code) {
        Matcher head = Pattern.compile("\\n( {4}| {8})[^ \\n][^=;\\n]*\\(([^)]*)\\) \\{\\n").matcher(code);
        int methods = 0;
        while (head.find()) {
            int end = code.indexOf("\n" + head.group(1) + "}", head.end() - 1);
            long lines = code.substring(head.start(), end).chars().filter(c -> c == '\n').count() + 1;
            Check.that("short: " + head.group().trim() + " " + lines, lines <= 60);
            Check.that("seven parameters: " + head.group().trim(), head.group(2).split(",").length <= 7);
            methods++;
        }
        Check.that("methods were found", methods > 60);
    }
}
