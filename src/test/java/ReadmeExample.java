import java.io.IOException;
import java.nio.file.Files;
import java.nio.file.Path;
import java.util.regex.Matcher;
import java.util.regex.Pattern;

/** Prints a program of README.md's lines, which holds each answer against the number behind its line. */
final class ReadmeExample {
    private static final Pattern BLOCK = Pattern.compile("(?s)```java\n(.*?)```");
    private static final Pattern MADE = Pattern.compile("TrailFinder \\w+ = new TrailFinder\\(\\);");
    private static final Pattern LINE = Pattern.compile("(?:int (\\w+) = )?(\\w+\\..*\\));\\s+// (-?\\d+)(:.*)?");

    private ReadmeExample() { }

    public static void main(String[] args) throws IOException {
        StringBuilder program = new StringBuilder("public final class ReadmeRun {\n");
        program.append("public static void main(String[] args) {\n");
        program.append("Check check = new Check(\"README.md\");\n");
        int line = 0;
        for (String text : block().lines().toList()) {
            line++;
            program.append(MADE.matcher(text).matches() ? text : held(text, line)).append('\n');
        }
        program.append("check.end();\n}\n}\n");
        System.out.print(program);
    }

    private static String block() throws IOException {
        Matcher block = BLOCK.matcher(Files.readString(Path.of("README.md")));
        if (!block.find()) throw new IllegalStateException("README.md has no lines of Java");
        return block.group(1);
    }

    private static String held(String text, int line) {
        Matcher told = LINE.matcher(text);
        if (!told.matches()) throw new IllegalStateException("README.md tells no answer: " + text);
        String answer = told.group(1) == null ? told.group(2) : told.group(1);
        String made = told.group(1) == null ? "" : "int " + answer + " = " + told.group(2) + ";\n";
        return made + "check.due(\"line " + line + "\", " + answer + ", " + told.group(3) + ");";
    }
}
