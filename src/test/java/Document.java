import java.io.IOException;
import java.nio.file.Files;
import java.nio.file.Path;
import java.util.ArrayList;
import java.util.LinkedHashMap;
import java.util.List;
import java.util.Map;
import java.util.regex.Matcher;
import java.util.regex.Pattern;

/** ../shared/DOC.md by its sections ("What it is", "Terms 1" .. "Promise 20"), and which of its words tests quote. */
final class Document {
    private static final Pattern HEAD = Pattern.compile("(?m)^(?:==== (\\d+)\\.|## (What it is|Promise \\d+).*|## .*)");
    private static final Pattern METHOD = Pattern.compile("(?m)^ +public (\\w+ \\w+\\([^)]*\\));");
    private static final Map<String, StringBuilder> LEFT = new LinkedHashMap<>();
    private static final String WHOLE = read(Path.of("..", "shared", "DOC.md"));
    private static final Map<String, String> TEXTS = split(WHOLE);

    private static String read(Path path) {
        try {
            return Files.readString(path);
        } catch (IOException e) {
            throw new IllegalStateException("run from the project's folder, beside ../shared", e);
        }
    }

    private static Map<String, String> split(String whole) {
        Map<String, String> texts = new LinkedHashMap<>();
        Matcher head = HEAD.matcher(whole);
        String section = null;
        int start = 0;
        while (head.find()) {
            enter(texts, section, whole.substring(start, head.start()));
            section = head.group(1) != null ? "Terms " + head.group(1) : head.group(2);
            start = head.end();
        }
        return texts;
    }

    private static void enter(Map<String, String> texts, String section, String words) {
        if (section != null) {
            // A promise begins with its method's head, which FaceTest holds to.
            String text = plain(words.replaceAll("```(text)?", " ").replaceAll("`[^`]*`:", " "));
            texts.put(section, text);
            LEFT.put(section, new StringBuilder(text));
        }
    }

    private static String plain(String words) {
        return words.replaceAll("\\s+", " ").trim();
    }

    /** Marks the words as quoted; false if the section hasn't got them. */
    static boolean quote(String section, String words) {
        String text = TEXTS.getOrDefault(section, "");
        int at = text.indexOf(plain(words));
        if (at < 0) {
            return false;
        }
        for (int i = at; i < at + plain(words).length(); i++) {
            LEFT.get(section).setCharAt(i, '|');
        }
        return true;
    }

    /** The methods of the public face, without the names of their parameters. */
    static List<String> face() {
        List<String> methods = new ArrayList<>();
        Matcher method = METHOD.matcher(WHOLE);
        while (method.find()) {
            methods.add(method.group(1).replaceAll("int \\w+([,)])", "int$1"));
        }
        return methods;
    }

    static int sections() {
        return TEXTS.size();
    }

    /** What no test has quoted, a line for each run of words. */
    static List<String> unquoted() {
        List<String> lines = new ArrayList<>();
        for (Map.Entry<String, StringBuilder> entry : LEFT.entrySet()) {
            for (String words : entry.getValue().toString().split("\\|+")) {
                if (words.matches("(?s).*\\w.*")) {
                    lines.add(entry.getKey() + ": " + words.trim());
                }
            }
        }
        return lines;
    }
}
