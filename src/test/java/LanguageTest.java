import java.io.IOException;
import java.lang.reflect.Constructor;
import java.lang.reflect.Field;
import java.lang.reflect.Method;
import java.lang.reflect.Modifier;
import java.nio.file.Files;
import java.nio.file.Path;
import java.util.List;
import java.util.Set;
import java.util.TreeSet;

/** What can be seen of LANGUAGE.md and of the public face without understanding the code. */
public final class LanguageTest {
    private static final Due due = new Due("language, face");
    private static final String[] FACE = {"boolean dead(int,int)", "boolean stuck()", "boolean unit(int)", "int bound()",
        "int fast()", "int letter(int)", "int move(int)", "int picture(int)", "int push(int)",
        "int pushes(int,int,int,int)", "int reach()", "int read()", "int row()", "int search(int)", "int states()",
        "int told(int)", "int undo()", "int way(int,int)"};
    private static final String NO_INDEX = "java.lang.ArrayIndexOutOfBoundsException";

    public static void main(String[] args) throws IOException {
        face();
        classesInside();
        source();
        due.end();
    }

    private static void face() {
        Set<String> seen = new TreeSet<>();
        for (Method method : PushBoards.class.getDeclaredMethods()) {
            if (Modifier.isPrivate(method.getModifiers())) {
                continue;
            }
            StringBuilder head = new StringBuilder(method.getReturnType() + " " + method.getName() + "(");
            String comma = "";
            for (Class<?> type : method.getParameterTypes()) {
                head.append(comma).append(type);
                comma = ",";
            }
            seen.add(head.append(")").toString());
            due.is(method.getName() + " tells what it throws", thrownBy(method), thrownDue(method.getName()));
            due.is(method.getName() + " is public", Modifier.isPublic(method.getModifiers()), true);
            due.is(method.getName() + " is of the object", Modifier.isStatic(method.getModifiers()), false);
        }
        due.is("the face", seen.toString(), new TreeSet<>(List.of(FACE)).toString());
        due.is("the class is final", Modifier.isFinal(PushBoards.class.getModifiers()), true);
        for (Constructor<?> made : PushBoards.class.getDeclaredConstructors()) {
            due.is("the constructor", made.getParameterCount() == 0 && Modifier.isPublic(made.getModifiers()), true);
        }
        for (Field field : PushBoards.class.getDeclaredFields()) {
            due.is(field.getName() + " is private", Modifier.isPrivate(field.getModifiers()), true);
        }
    }

    private static String thrownBy(Method method) {
        StringBuilder all = new StringBuilder();
        for (Class<?> type : method.getExceptionTypes()) {
            all.append(type.getName()).append(' ');
        }
        return all.toString();
    }

    private static String thrownDue(String name) {
        switch (name) {
            case "move":
                return NO_INDEX + " java.lang.IllegalStateException ";
            case "way":
            case "dead":
            case "pushes":
                return NO_INDEX + " ";
            default:
                return "";
        }
    }

    private static void classesInside() {
        due.is("twelve classes at most", PushBoards.class.getDeclaredClasses().length <= 11, true);
        for (Class<?> inside : PushBoards.class.getDeclaredClasses()) {
            due.is(inside + " is static", Modifier.isStatic(inside.getModifiers()), true);
            due.is(inside + " is not public", Modifier.isPublic(inside.getModifiers()), false);
            for (Method method : inside.getDeclaredMethods()) {
                due.is(method + " bears a public name", isPublicName(method.getName()), false);
                due.is(method + " has at most seven parameters", method.getParameterCount() <= 7, true);
            }
            for (Field field : inside.getDeclaredFields()) {
                boolean changes = Modifier.isStatic(field.getModifiers()) && !Modifier.isFinal(field.getModifiers());
                due.is(field + " is static and not final", changes, false);
            }
        }
    }

    private static boolean isPublicName(String name) {
        for (String head : FACE) {
            if (head.contains(" " + name + "(")) {
                return true;
            }
        }
        return false;
    }

    private static void source() throws IOException {
        List<String> lines = Files.readAllLines(Path.of("src/main/java/PushBoards.java"));
        String[] never = {"->", "::", "try {", "catch (", "finally", "synchronized", "assert ", "package ", "System.",
            "Random", "Thread", "Exact(", "while (true)", "for (;;)", "getMessage", "hashCode", "double", "float"};
        for (String line : lines) {
            for (String word : never) {
                due.is(word + " in " + line, line.contains(word), false);
            }
            if (line.startsWith("import ")) {
                due.is("import", line, "import java.util.Arrays;");
            }
            due.is("only plain characters: " + line, line.chars().allMatch(c -> c >= 32 && c < 127), true);
        }
        shortMethods(lines);
    }

    private static void shortMethods(List<String> lines) {
        int start = -1;
        String closing = "";
        for (int i = 0; i < lines.size(); i++) {
            String line = lines.get(i);
            String bare = line.stripLeading();
            String indent = line.substring(0, line.length() - bare.length());
            boolean member = indent.length() == 4 || indent.length() == 8;
            if (start < 0 && member && bare.endsWith("{") && bare.contains("(") && !bare.startsWith("if")
                && !bare.startsWith("for") && !bare.startsWith("switch")) {
                start = i;
                closing = indent + "}";
            } else if (start >= 0 && line.equals(closing)) {
                due.is("the method at line " + (start + 1) + " is short", i - start <= 60, true);
                start = -1;
            }
        }
    }
}
