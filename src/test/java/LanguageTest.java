import java.io.IOException;
import java.nio.file.Files;
import java.nio.file.Path;
import java.util.Set;
import java.util.TreeSet;
import java.util.regex.Matcher;
import java.util.regex.Pattern;

/** What of ../shared/LANGUAGE.md can be seen by looking for words in the source. */
final class LanguageTest {
    private static final Path SOURCE = Path.of("src/main/java/TrailFinder.java");
    private static final String[] WORDS = {"throw", "throws", "try", "catch", "synchronized", "assert", "protected",
        "package", "volatile", "native", "transient", "strictfp", "Object", "hashCode", "System\\.(?!arraycopy)",
        "Thread", "Random", "Stream", "Exact", "Scanner", "HashMap", "HashSet", "var"};
    private static final Set<String> IMPORTS = Set.of("java.util.ArrayList", "java.util.Arrays", "java.util.List",
        "java.util.Iterator");
    private static final Check check = new Check("LanguageTest");

    public static void main(String[] args) throws IOException {
        String text = Files.readString(SOURCE);
        check.due("signs are 1 to 127", text.chars().allMatch(sign -> sign >= 1 && sign <= 127));
        String code = text.replaceAll("(?s)/\\*.*?\\*/", "").replaceAll("//[^\n]*", "");
        for (String word : WORDS) check.due("no " + word, !Pattern.compile("\\b" + word + "\\b").matcher(code).find());
        check.due("no lambda", !code.contains("->"));
        check.due("no method reference", !code.contains("::"));
        check.due("no static block", !Pattern.compile("static\\s*\\{").matcher(code).find());
        check.due("no text", !code.contains("\""));
        imports(code);
        statics(code);
        classes(code);
        methods(code);
        check.end();
    }

    private static void imports(String code) {
        Matcher matcher = Pattern.compile("import\\s+([^;]+);").matcher(code);
        while (matcher.find()) check.due("import " + matcher.group(1), IMPORTS.contains(matcher.group(1)));
    }

    private static void statics(String code) {
        Matcher matcher = Pattern.compile("\\bstatic\\b([^;({]*)[;({]").matcher(code);
        while (matcher.find()) {
            String rest = matcher.group(1);
            boolean field = rest.contains("=");
            check.due("static is final: " + rest, !field || rest.contains("final int") || rest.contains("final long"));
        }
    }

    private static void classes(String code) {
        Matcher matcher = Pattern.compile("([\\w ]*)\\bclass (\\w+)").matcher(code);
        int classes = 0;
        while (matcher.find()) {
            classes++;
            boolean face = matcher.group(1).trim().equals("public final");
            check.due("class " + matcher.group(2), face || matcher.group(1).trim().equals("private static final"));
        }
        check.due("twelve classes at most", classes <= 12);
    }

    private static void methods(String code) {
        Set<String> open = new TreeSet<>();
        Set<String> hidden = new TreeSet<>();
        Matcher matcher = Pattern.compile("\n( +)(public|private)[^;={\n]*?(\\w+)\\(([^)]*)\\) \\{").matcher(code);
        while (matcher.find()) {
            String name = matcher.group(3);
            (matcher.group(2).equals("public") ? open : hidden).add(name);
            int end = code.indexOf("\n" + matcher.group(1) + "}", matcher.end());
            long lines = code.substring(matcher.start() + 1, Math.max(end, matcher.start() + 1)).lines().count();
            check.due(name + " has sixty lines at most", lines <= 60);
            check.due(name + " has seven parameters at most", matcher.group(4).split(",").length <= 7);
        }
        check.due("public ones", open.size(), 24);
        hidden.retainAll(open);
        check.due("hidden ones that bear a public name: " + hidden, hidden.isEmpty());
    }
}
