import java.lang.reflect.Method;
import java.lang.reflect.Modifier;
import java.nio.file.Files;
import java.nio.file.Path;
import java.util.ArrayList;
import java.util.Arrays;
import java.util.List;
import java.util.regex.Matcher;
import java.util.regex.Pattern;

/** What README.md tells of the class is so: each call of its example, with the answer behind it, and all calls are named. */
public final class ReadmeTest {
    static final Pattern CALL = Pattern.compile("line\\.(\\w+)\\(([-0-9, ]*)\\); +// (-?\\d+): .*");
    static final Pattern TEXT = Pattern.compile("for \\(char letter : \"([^\"]*)\"\\.toCharArray\\(\\)\\) \\{");
    static int wrong = 0;
    static int answers = 0;

    public static void main(String[] args) throws Exception {
        String readme = Files.readString(Path.of("README.md"));
        example(readme);
        names(readme);
        System.out.println(wrong == 0 ? "ReadmeTest: " + answers + " answers are as told" : wrong + " are not as told");
        if (wrong != 0) {
            System.exit(1);
        }
    }

    static void check(boolean holds, String what) {
        answers++;
        if (!holds) {
            wrong++;
            System.out.println("README.md: " + what);
        }
    }

    static void example(String readme) throws ReflectiveOperationException {
        BalancedLine line = new BalancedLine();
        int found = 0;
        for (String row : readme.split("\n")) {
            Matcher text = TEXT.matcher(row);
            Matcher call = CALL.matcher(row);
            if (text.matches()) {
                for (char letter : text.group(1).toCharArray()) {
                    line.write(letter);
                }
            } else if (call.matches()) {
                int got = answer(line, call.group(1), call.group(2));
                check(got == Integer.parseInt(call.group(3)), "not so, it answers " + got + ": " + row);
                found++;
            } else {
                check(!row.startsWith("line."), "a call without its answer: " + row);
            }
        }
        check(found > 0, "has an example");
    }

    static int answer(BalancedLine line, String name, String numbers) throws ReflectiveOperationException {
        List<Object> given = new ArrayList<>();
        for (String number : numbers.isEmpty() ? new String[0] : numbers.split(", ")) {
            given.add(Integer.parseInt(number));
        }
        Class<?>[] types = new Class<?>[given.size()];
        Arrays.fill(types, int.class);
        return (Integer) BalancedLine.class.getMethod(name, types).invoke(line, given.toArray());
    }

    static void names(String readme) {
        for (Method m : BalancedLine.class.getDeclaredMethods()) {
            if (Modifier.isPublic(m.getModifiers())) {
                check(readme.contains("`" + m.getName() + "("), "does not name " + m.getName());
            }
        }
    }
}
