import java.io.IOException;
import java.lang.reflect.Method;
import java.lang.reflect.Modifier;
import java.nio.file.DirectoryStream;
import java.nio.file.Files;
import java.nio.file.Path;
import java.util.ArrayList;
import java.util.Collections;
import java.util.List;
import java.util.regex.Matcher;
import java.util.regex.Pattern;

/** README.md: its example answers what it says, and it names every public method and every test of the project. */
public final class StreetWalkerReadme {
    private static final Pattern EXAMPLE = Pattern.compile("town\\.(\\w+)\\(([^)]*)\\); +// (-?\\w+).*");

    private static int wrong = 0;

    private static void complain(String what) {
        wrong++;
        System.out.println("README.md: " + what);
    }

    private static List<Method> publicMethods() {
        List<Method> methods = new ArrayList<>();
        for (Method method : StreetWalker.class.getDeclaredMethods()) {
            if (Modifier.isPublic(method.getModifiers())) {
                methods.add(method);
            }
        }
        return methods;
    }

    private static Object answer(StreetWalker town, String name, String arguments) throws ReflectiveOperationException {
        List<Object> numbers = new ArrayList<>();
        for (String number : arguments.isEmpty() ? new String[0] : arguments.split(", ")) {
            numbers.add(Integer.valueOf(number));
        }
        for (Method method : publicMethods()) {
            if (method.getName().equals(name) && method.getParameterCount() == numbers.size()) {
                return method.invoke(town, numbers.toArray());
            }
        }
        return "nothing: there is no such method";
    }

    private static void runExample(String readme) throws ReflectiveOperationException {
        StreetWalker town = new StreetWalker();
        int calls = 0;
        for (String line : readme.lines().toList()) {
            Matcher call = EXAMPLE.matcher(line);
            if (call.matches()) {
                calls++;
                String got = String.valueOf(answer(town, call.group(1), call.group(2)));
                if (!got.equals(call.group(3))) {
                    complain(line + " answered " + got);
                }
            } else if (line.startsWith("town.")) {
                complain("can't be read as a call with its answer: " + line);
            }
        }
        if (calls == 0) {
            complain("has no example");
        }
    }

    /** The names of the parameters aren't known here, so any will do. */
    private static void lookForMethods(String readme) {
        for (Method method : publicMethods()) {
            String parameters = String.join(", ", Collections.nCopies(method.getParameterCount(), "int \\w+"));
            String row = "\\| `" + method.getReturnType() + " " + method.getName() + "\\(" + parameters + "\\)` \\| .+ \\| .+ \\|";
            if (!Pattern.compile("(?m)^" + row + "$").matcher(readme).find()) {
                complain("has no row for " + method);
            }
        }
        for (String constant : List.of("NONE` is " + StreetWalker.NONE + ":", "FULL` is " + StreetWalker.FULL + ":")) {
            if (!readme.contains("- `StreetWalker." + constant)) {
                complain("does not say: " + constant);
            }
        }
    }

    private static void lookForTests(String readme) throws IOException {
        try (DirectoryStream<Path> tests = Files.newDirectoryStream(Path.of("src/test/java"), "*.java")) {
            for (Path test : tests) {
                if (!readme.contains("`" + test.toString().replace('\\', '/') + "`")) {
                    complain("does not name " + test);
                }
            }
        }
        if (!readme.contains(".ci/run")) {
            complain("does not say how the tests are run");
        }
    }

    public static void main(String[] args) throws IOException, ReflectiveOperationException {
        String readme = Files.readString(Path.of("README.md"));
        runExample(readme);
        lookForMethods(readme);
        lookForTests(readme);
        System.out.println(wrong == 0 ? "README.md is as due" : wrong + " things in README.md are not as due");
        if (wrong != 0) {
            System.exit(1);
        }
    }
}
