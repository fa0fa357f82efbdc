import java.io.IOException;
import java.lang.reflect.Method;
import java.lang.reflect.Modifier;
import java.nio.file.Files;
import java.nio.file.Path;
import java.util.TreeMap;
import java.util.regex.Matcher;
import java.util.regex.Pattern;

/** What README.md says of the class is so: its calls are made, and their answers compared with those it tells. */
public final class ReadmeTest {
    private static final Pattern BLOCK = Pattern.compile("(?s)```java\n(.*?)```");
    private static final Pattern MAKING = Pattern.compile("CellFigures x = new CellFigures\\(\\);");
    private static final Pattern TYPING =
            Pattern.compile("for \\(char c : \"(.*)\"\\.toCharArray\\(\\)\\) x\\.append\\(c\\);");
    private static final Pattern CALL = Pattern.compile("x\\.(\\w+)\\(([-0-9, ]*)\\); *// (-?\\d+)(: .*)?");

    private static final TreeMap<String, Method> METHODS = new TreeMap<>();

    public static void main(String[] args) throws IOException, ReflectiveOperationException {
        for (Method m : CellFigures.class.getDeclaredMethods()) {
            if (Modifier.isPublic(m.getModifiers())) {
                METHODS.put(m.getName(), m);
            }
        }
        String readme = Files.readString(Path.of("README.md"));
        Matcher blocks = BLOCK.matcher(readme);
        int found = 0;
        while (blocks.find()) {
            found++;
            example(blocks.group(1));
        }
        Due.due("README.md: examples", found, 1);
        for (String edit : new String[] {"setLattice", "addCell", "removeCell", "move", "take", "load", "undo"}) {
            Due.due("README.md names " + edit, readme.contains("`" + edit + "`") ? 1 : 0, 1);
        }
        Due.due("README.md names .ci/run", readme.contains(".ci/run") ? 1 : 0, 1);
        theTestsAreNamed(readme);
        Due.end();
    }

    private static void example(String code) throws ReflectiveOperationException {
        CellFigures x = null;
        for (String line : code.split("\n")) {
            Matcher typing = TYPING.matcher(line);
            Matcher call = CALL.matcher(line);
            if (MAKING.matcher(line).matches()) {
                x = new CellFigures();
            } else if (x != null && typing.matches()) {
                Due.type(x, typing.group(1));
            } else if (x != null && call.matches()) {
                Due.due("README.md: " + line, answer(x, call.group(1), call.group(2)), Integer.parseInt(call.group(3)));
            } else if (!line.isEmpty() && !line.startsWith("//")) {
                Due.fail("README.md has a line that this test can't read: " + line);
            }
        }
    }

    private static int answer(CellFigures x, String name, String list) throws ReflectiveOperationException {
        String[] parts = list.isEmpty() ? new String[0] : list.split(", ");
        Object[] arguments = new Object[parts.length];
        for (int i = 0; i < parts.length; i++) {
            arguments[i] = Integer.parseInt(parts[i]);
        }
        Method method = METHODS.get(name);
        if (method == null || method.getParameterCount() != parts.length) {
            Due.fail("README.md has a call that the class has not: " + name + "(" + list + ")");
            return 0;
        }
        return (int) method.invoke(x, arguments);
    }

    private static void theTestsAreNamed(String readme) throws IOException {
        try (var files = Files.list(Path.of("src/test/java"))) {
            for (Path file : files.toList()) {
                String name = file.getFileName().toString().replace(".java", "");
                boolean isNamed = !name.endsWith("Test") || readme.contains("`" + name + "`");
                Due.due("README.md names " + name, isNamed ? 1 : 0, 1);
            }
        }
    }
}
