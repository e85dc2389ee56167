import java.io.IOException;
import java.lang.reflect.InvocationTargetException;
import java.lang.reflect.Method;
import java.nio.file.Files;
import java.nio.file.Path;
import java.util.ArrayList;
import java.util.List;
import java.util.TreeSet;
import java.util.regex.Matcher;
import java.util.regex.Pattern;
import java.util.stream.Stream;

/**
 * What README.md shows answers as it says there. In its Java blocks a line is one call or several,
 * and behind "//" stands what each answers, then a colon and a remark if there is one.
 */
public final class ReadmeTest {
    private static final String MAKES_ONE = "FenceBench bench = new FenceBench();";
    private static final Pattern CALL = Pattern.compile("bench\\.(\\w+)\\(([^()]*)\\);");
    private static final Pattern LINE = Pattern.compile("((?:" + CALL.pattern() + "\\s*)+)//\\s*([^:]+?)(?::.*)?");

    private static int wrong = 0;
    private static final TreeSet<String> shown = new TreeSet<>();

    private static void fail(String why) {
        wrong++;
        System.out.println("README.md: " + why);
    }

    public static void main(String[] args) throws IOException {
        String readme = Files.readString(Path.of("README.md"));
        FenceBench bench = null;
        for (String line : linesOfJava(readme)) {
            if (line.equals(MAKES_ONE)) {
                bench = new FenceBench();
            } else if (bench == null) {
                fail("no bench has been made before: " + line);
            } else {
                answersAsShown(bench, line);
            }
        }
        showsEveryCall();
        namesEveryTest(readme);
        System.out.println(wrong == 0 ? "README.md says what is so" : wrong + " things are not so");
        if (wrong != 0) {
            System.exit(1);
        }
    }

    private static List<String> linesOfJava(String readme) {
        List<String> lines = new ArrayList<>();
        boolean inside = false;
        for (String line : readme.split("\n")) {
            if (line.startsWith("```")) {
                inside = line.equals("```java");
            } else if (inside && !line.isBlank()) {
                lines.add(line.strip());
            }
        }
        return lines;
    }

    private static void answersAsShown(FenceBench bench, String line) {
        Matcher whole = LINE.matcher(line);
        if (!whole.matches()) {
            fail("a line tells no answers: " + line);
            return;
        }
        List<String> got = new ArrayList<>();
        Matcher calls = CALL.matcher(whole.group(1));
        while (calls.find()) {
            shown.add(calls.group(1));
            got.add(answer(bench, calls.group(1), calls.group(2)));
        }
        List<String> want = List.of(whole.group(whole.groupCount()).split(",\\s*"));
        if (!want.equals(got)) {
            fail(line + " -- answered " + got);
        }
    }

    /** A call's answer as README.md writes it; a method without one answers "nothing". */
    private static String answer(FenceBench bench, String name, String arguments) {
        String[] words = arguments.isBlank() ? new String[0] : arguments.split(",\\s*");
        for (Method m : FenceBench.class.getMethods()) {
            if (m.getName().equals(name) && m.getParameterCount() == words.length) {
                return answer(bench, m, words);
            }
        }
        return "no such method";
    }

    private static String answer(FenceBench bench, Method m, String[] words) {
        Object[] values = new Object[words.length];
        for (int i = 0; i < words.length; i++) {
            values[i] = m.getParameterTypes()[i] == boolean.class ? (Object) words[i].equals("true") : number(words[i]);
        }
        try {
            Object result = m.invoke(bench, values);
            return result == null ? "nothing" : result.toString();
        } catch (InvocationTargetException e) {
            return e.getCause().getClass().getSimpleName();
        } catch (IllegalAccessException e) {
            return "not public";
        }
    }

    private static Object number(String word) {
        return word.equals("FenceBench.NONE") ? FenceBench.NONE : Integer.parseInt(word);
    }

    private static void showsEveryCall() {
        for (Method m : FenceBench.class.getMethods()) {
            if (m.getDeclaringClass() == FenceBench.class && !shown.contains(m.getName())) {
                fail(m.getName() + "() is not shown");
            }
        }
    }

    private static void namesEveryTest(String readme) throws IOException {
        try (Stream<Path> files = Files.list(Path.of("src/test/java"))) {
            files.map(file -> file.getFileName().toString().replace(".java", ""))
                    .filter(name -> !readme.contains("`" + name + "`"))
                    .forEach(name -> fail(name + " is not named"));
        }
    }
}
