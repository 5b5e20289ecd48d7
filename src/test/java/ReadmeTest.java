import java.lang.reflect.Method;
import java.lang.reflect.Modifier;
import java.nio.file.Files;
import java.nio.file.Path;
import java.util.regex.Matcher;
import java.util.regex.Pattern;

/** README.md names each call of the class, and its examples answer as it says. Runs in the project's directory. */
public final class ReadmeTest {
    private static final Pattern MADE = Pattern.compile("LassoPaths x = new LassoPaths\\(\\);");
    private static final Pattern TYPED = Pattern.compile("for \\(char letter : \"([^\"]*)\"\\.toCharArray\\(\\)\\) x\\.type\\(letter\\);");
    private static final Pattern CALLED = Pattern.compile("x\\.(\\w+)\\(([^)]*)\\); +// (-?\\d+|[A-Z]+)(:.*)?");

    private static int examples;

    public static void main(String[] args) throws Exception {
        String page = Files.readString(Path.of("README.md"));
        rows(page);
        Matcher block = Pattern.compile("(?s)```java\n(.*?)```").matcher(page);
        while (block.find()) {
            example(block.group(1));
        }
        Check.that("examples were found", examples > 40);
        Check.end();
    }

    /** A row of the table for each call, with as many names as the call takes numbers. */
    private static void rows(String page) {
        for (Method m : LassoPaths.class.getDeclaredMethods()) {
            if (!Modifier.isPublic(m.getModifiers())) {
                continue;
            }
            Matcher row = Pattern.compile("(?m)^\\| `" + m.getName() + "\\(([^)]*)\\)` \\|").matcher(page);
            boolean found = row.find();
            Check.that("README.md has a row of " + m.getName(), found);
            if (found) {
                Check.due("what " + m.getName() + " takes", numbersIn(row.group(1)), m.getParameterCount());
                Check.that("README.md has one row of " + m.getName(), !row.find());
            }
        }
    }

    private static int numbersIn(String told) {
        return told.isBlank() ? 0 : told.split(",").length;
    }

    private static void example(String block) throws Exception {
        LassoPaths x = new LassoPaths();
        for (String line : block.split("\n")) {
            Matcher typed = TYPED.matcher(line);
            Matcher called = CALLED.matcher(line);
            if (typed.matches()) {
                for (char letter : typed.group(1).toCharArray()) {
                    x.type(letter);
                }
            } else if (called.matches()) {
                Check.due(line, answer(x, called.group(1), called.group(2)), number(called.group(3)));
                examples++;
            } else {
                Check.that("a line that is understood: " + line, MADE.matcher(line).matches());
            }
        }
    }

    private static int answer(LassoPaths x, String name, String told) throws Exception {
        int count = numbersIn(told);
        Class<?>[] types = new Class<?>[count];
        Object[] numbers = new Object[count];
        for (int i = 0; i < count; i++) {
            types[i] = int.class;
            numbers[i] = Integer.valueOf(told.split(",")[i].trim());
        }
        return (int) LassoPaths.class.getMethod(name, types).invoke(x, numbers);
    }

    private static int number(String told) throws Exception {
        return Character.isUpperCase(told.charAt(0)) ? LassoPaths.class.getField(told).getInt(null) : Integer.parseInt(told);
    }
}
