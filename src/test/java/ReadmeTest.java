import java.io.IOException;
import java.nio.file.Files;
import java.nio.file.Path;
import java.util.Set;
import java.util.TreeSet;
import java.util.regex.Matcher;
import java.util.regex.Pattern;
import java.util.stream.Collectors;
import java.util.stream.Stream;

/** That README.md names every call and every test, and none that isn't there. */
final class ReadmeTest {
    private static final Check check = new Check("ReadmeTest");

    public static void main(String[] args) throws IOException {
        String page = Files.readString(Path.of("README.md"));
        same("calls", firstOfRows(page, "(\\w+\\([\\w, ]*\\))"), calls());
        same("tests", firstOfRows(page, "(\\w+Test)"), tests());
        check.due("the script is there", Files.exists(Path.of(".ci/run")));
        check.due("the class is there", Files.exists(Path.of("src/main/java/TrailFinder.java")));
        check.end();
    }

    private static void same(String what, Set<String> told, Set<String> there) {
        check.due(what + " told: " + told + ", there: " + there, told.equals(there));
        check.due("some " + what, !there.isEmpty());
    }

    /** What stands between the signs of code at the start of the rows of README.md's tables. */
    private static Set<String> firstOfRows(String page, String form) {
        Set<String> firsts = new TreeSet<>();
        Matcher row = Pattern.compile("(?m)^\\| `" + form + "` \\|").matcher(page);
        while (row.find()) firsts.add(row.group(1));
        return firsts;
    }

    /** The calls with the names of what they take, as the source tells them. */
    private static Set<String> calls() throws IOException {
        Set<String> calls = new TreeSet<>();
        String source = Files.readString(Path.of("src/main/java/TrailFinder.java"));
        Matcher face = Pattern.compile("\n    public int (\\w+)\\(([^)]*)\\)").matcher(source);
        while (face.find()) {
            calls.add(face.group(1) + "(" + face.group(2).replace("int ", "").replace("boolean ", "") + ")");
        }
        return calls;
    }

    private static Set<String> tests() throws IOException {
        try (Stream<Path> files = Files.list(Path.of("src/test/java"))) {
            return files.map(file -> file.getFileName().toString())
                .filter(name -> name.endsWith("Test.java"))
                .map(name -> name.substring(0, name.length() - ".java".length()))
                .collect(Collectors.toCollection(TreeSet::new));
        }
    }
}
