import java.io.IOException;
import java.lang.reflect.Method;
import java.lang.reflect.Modifier;
import java.nio.file.Files;
import java.nio.file.Path;
import java.util.ArrayList;
import java.util.List;
import java.util.regex.Matcher;
import java.util.regex.Pattern;

/**
 * Prints a program, ReadmeUse, that makes every call of README.md's java blocks and holds its answer
 * against the one shown behind it. A block that begins with "static" is taken as it stands; in the others
 * each line is a call with its answer, and the blocks go on with one another's objects.
 */
public final class ReadmeCalls {
    private static final Pattern MAKING = Pattern.compile("HiringHall \\w+ = new HiringHall\\(\\);");
    private static final Pattern SHOWN =
            Pattern.compile("((?:int|boolean) (\\w+) = )?(.+?\\));\\s*// (-?\\d+|true|false)(:? .*)?");

    private final List<String> helpers = new ArrayList<>();
    private final List<String> steps = new ArrayList<>();
    private final StringBuilder callsShown = new StringBuilder();
    private int wrong;

    public static void main(String[] args) throws IOException {
        ReadmeCalls calls = new ReadmeCalls();
        calls.read(Files.readAllLines(Path.of("README.md")));
        calls.everyMethodIsShown();
        calls.print();
        System.exit(calls.wrong == 0 ? 0 : 1);
    }

    private void read(List<String> lines) {
        boolean isJava = false;
        boolean isHelper = false;
        for (int i = 0; i < lines.size(); i++) {
            String line = lines.get(i);
            if (line.startsWith("```")) {
                isJava = line.equals("```java");
                isHelper = isJava && i + 1 < lines.size() && lines.get(i + 1).startsWith("static ");
            } else if (isHelper) {
                helpers.add(line);
            } else if (isJava && !line.isBlank()) {
                step(i + 1, line);
            }
        }
    }

    private void step(int number, String line) {
        Matcher shown = SHOWN.matcher(line);
        if (MAKING.matcher(line).matches()) {
            steps.add(line);
        } else if (shown.matches()) {
            callsShown.append(shown.group(3)).append('\n');
            String value = shown.group(3);
            if (shown.group(1) != null) {
                steps.add(shown.group(1) + value + ";");
                value = shown.group(2);
            }
            steps.add("due(" + number + ", String.valueOf(" + value + "), \"" + shown.group(4) + "\");");
        } else {
            fail("line " + number + " shows no call with its answer: " + line);
        }
    }

    private void everyMethodIsShown() {
        for (Method method : HiringHall.class.getDeclaredMethods()) {
            if (Modifier.isPublic(method.getModifiers()) && callsShown.indexOf("hall." + method.getName() + "(") < 0) {
                fail("no line shows " + method.getName() + "() with its answer");
            }
        }
    }

    private void fail(String what) {
        wrong++;
        System.err.println("README.md: " + what);
    }

    private void print() {
        System.out.println("public final class ReadmeUse {");
        System.out.println("private static int wrong;");
        System.out.println("private static void due(int line, String got, String want) {");
        System.out.println("if (!got.equals(want)) { wrong++; System.out.println("
                + "\"README.md, line \" + line + \": the answer is \" + got + \", \" + want + \" is shown\"); } }");
        helpers.forEach(System.out::println);
        System.out.println("public static void main(String[] args) {");
        steps.forEach(System.out::println);
        System.out.println("if (wrong != 0) System.exit(1); } }");
    }
}
