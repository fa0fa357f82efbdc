import java.io.IOException;
import java.lang.reflect.Field;
import java.lang.reflect.Method;
import java.lang.reflect.Modifier;
import java.nio.file.Files;
import java.nio.file.Path;
import java.util.List;
import java.util.TreeSet;
import java.util.regex.Matcher;
import java.util.regex.Pattern;

/** The face of the class is the document's, and its source keeps to what LANGUAGE.md forbids by words. */
public final class FaceTest {
    private static final List<String> METHODS = List.of("setLattice 1", "addCell 3", "removeCell 3", "move 2",
            "take 2", "append 1", "clearText 0", "load 0", "undo 0", "count 1", "hasCell 3", "property 1", "key 2",
            "number 1", "relatives 1", "figures 2", "figure 4", "withSides 2", "withSymmetries 2", "withHoles 1",
            "connectedSets 3");

    public static void main(String[] args) throws IOException {
        face();
        source(Files.readString(Path.of("src/main/java/CellFigures.java")));
        Due.due("INVALID_ARGUMENT", CellFigures.INVALID_ARGUMENT, -1);
        Due.due("ILLEGAL_STATE", CellFigures.ILLEGAL_STATE, -2);
        Due.due("CAPACITY_EXCEEDED", CellFigures.CAPACITY_EXCEEDED, -3);
        Due.due("NONE", CellFigures.NONE, -9);
        Due.end();
    }

    private static void face() {
        Due.due("the class is final", Modifier.isFinal(CellFigures.class.getModifiers()) ? 1 : 0, 1);
        Due.due("constructors", CellFigures.class.getConstructors().length, 1);
        TreeSet<String> found = new TreeSet<>();
        for (Method m : CellFigures.class.getDeclaredMethods()) {
            if (!Modifier.isPrivate(m.getModifiers()) && !m.isSynthetic()) {
                found.add(m.getName() + " " + m.getParameterCount());
                Due.due(m.getName() + " returns int", m.getReturnType() == int.class ? 1 : 0, 1);
            } else {
                String name = m.getName();
                boolean isTaken = METHODS.stream().anyMatch(f -> f.startsWith(name + " "));
                Due.due("private " + name + " bears a public name", isTaken ? 1 : 0, 0);
            }
        }
        Due.due("the methods " + found, found.equals(new TreeSet<>(METHODS)) ? 1 : 0, 1);
        int open = 0;
        for (Field f : CellFigures.class.getDeclaredFields()) {
            open += Modifier.isPrivate(f.getModifiers()) ? 0 : 1;
        }
        Due.due("open fields", open, 4);
        Due.due("classes inside, at most twelve", CellFigures.class.getDeclaredClasses().length <= 12 ? 1 : 0, 1);
    }

    private static void source(String source) {
        String code = source.replaceAll("(?s)/\\*.*?\\*/", " ").replaceAll("//[^\n]*", " ");
        Matcher m = Pattern.compile("\\b(throw|throws|try|catch|synchronized|assert|import|package|Object"
                + "|equals|hashCode|toString)\\b|->|::").matcher(code);
        while (m.find()) {
            Due.fail("the source has \"" + m.group() + "\":");
        }
        for (int i = 0; i < source.length(); i++) {
            if (source.charAt(i) > 126) {
                Due.fail("the source has the character " + (int) source.charAt(i) + " at " + i + ":");
            }
        }
    }
}
