import java.nio.file.Files;
import java.nio.file.Path;
import java.util.Set;
import java.util.TreeSet;
import java.util.regex.Matcher;
import java.util.regex.Pattern;

/** Those rules of LANGUAGE.md that can be seen in the text of the program. */
public final class LanguageTest {
    private static final Check CHECK = new Check();
    private static final Set<String> LIBRARY = Set.of("String", "Integer", "Math", "System");

    public static void main(String[] args) throws Exception {
        String source = Files.readString(Path.of("src/main/java/RocketPrint.java"));
        CHECK.holds("signs are 10 and 32 to 126", source.chars().allMatch(c -> c == 10 || c >= 32 && c < 127));
        String code = source.replaceAll("(?s)/\\*.*?\\*/", "").replaceAll("//[^\n]*", "")
                .replaceAll("\"[^\"\n]*\"", "\"\"").replaceAll("'[^'\n]'", "' '");
        words(code);
        library(code);
        methods(code);
        CHECK.finish();
    }

    private static void words(String code) {
        String[] never = {"throw", "throws", "try", "catch", "synchronized", "assert", "import", "package", "protected",
            "var", "double", "float", "hashCode", "toString", "volatile", "native", "transient"};
        for (String word : never) {
            CHECK.holds("no " + word, !Pattern.compile("\\b" + word + "\\b").matcher(code).find());
        }
        CHECK.holds("no lambda, no method reference", !code.contains("->") && !code.contains("::"));
        CHECK.holds("no static initialiser", !Pattern.compile("static\\s*\\{").matcher(code).find());
        CHECK.holds("no local or inner class", !Pattern.compile("(?m)^(?! *private static final |public final )[^\n]*\\bclass\\b").matcher(code).find());
        CHECK.holds("twelve classes at most", code.split("\\bclass\\b").length - 1 <= 12);
    }

    private static void library(String code) {
        Set<String> own = new TreeSet<>();
        Matcher classes = Pattern.compile("\\bclass (\\w+)").matcher(code);
        while (classes.find()) {
            own.add(classes.group(1));
        }
        Matcher names = Pattern.compile("\\b[A-Z][a-z]\\w*").matcher(code);
        while (names.find()) {
            CHECK.holds(names.group() + " is the library's or own", LIBRARY.contains(names.group()) || own.contains(names.group()));
        }
        CHECK.holds("no function that ends in Exact", !code.contains("Exact("));
    }

    private static void methods(String code) {
        Matcher heads = Pattern.compile("(?m)^( +)(?:public|private)[^\n;=]*\\(([^)]*)\\) \\{$").matcher(code);
        int found = 0;
        while (heads.find()) {
            found++;
            String head = heads.group().trim();
            CHECK.holds("seven parameters at most: " + head, heads.group(2).split(",").length <= 7);
            int stop = code.indexOf("\n" + heads.group(1) + "}", heads.end());
            CHECK.holds("its end is found: " + head, stop > 0);
            long lines = code.substring(heads.start(), Math.max(stop, heads.start())).lines().count();
            CHECK.holds("sixty lines at most: " + head, lines <= 60);
        }
        CHECK.holds("methods are found", found > 44);
    }
}
