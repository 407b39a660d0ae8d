import java.io.IOException;
import java.nio.file.Files;
import java.nio.file.Path;
import java.util.Set;
import java.util.TreeSet;
import java.util.regex.Matcher;
import java.util.regex.Pattern;
import java.util.stream.Stream;

/** The tests that README.md tells of are those that there are (the calls it shows: ReadmeCalls). */
public final class ReadmeTest {
    private static final Pattern TOLD = Pattern.compile("`(\\w+(?:Test|Edges))`");

    public static void main(String[] args) throws IOException {
        Set<String> told = new TreeSet<>();
        Matcher name = TOLD.matcher(Files.readString(Path.of("README.md")));
        while (name.find()) {
            told.add(name.group(1));
        }
        Set<String> there = new TreeSet<>();
        try (Stream<Path> files = Files.list(Path.of("src", "test", "java"))) {
            files.map(file -> file.getFileName().toString().replace(".java", ""))
                    .filter(file -> file.matches("\\w+(Test|Edges)"))
                    .forEach(there::add);
        }
        Check check = new Check();
        check.yes("README.md tells of " + told + ", there are " + there, told.equals(there));
        check.end();
    }
}
