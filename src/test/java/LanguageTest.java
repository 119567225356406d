import java.lang.reflect.Method;
import java.lang.reflect.Modifier;
import java.nio.file.Files;
import java.nio.file.Path;
import java.util.Set;
import java.util.TreeSet;
import java.util.regex.Matcher;
import java.util.regex.Pattern;

/** Those rules of LANGUAGE.md that can be seen in the text of the program. */
public final class LanguageTest {
    private static final Check CHECK = new Check();
    private static final Path PROGRAM = Path.of("src/main/java/RocketPrint.java");
    private static final Set<String> LIBRARY = Set.of("String", "Integer", "Math", "System");
    private static final Set<String> TYPES = Set.of("int", "long", "short", "byte", "char", "boolean", "void",
            "java.lang.String");
    private static final Set<String> CONSTANTS = Set.of("int", "long", "boolean", "char", "java.lang.String",
            "int[]", "long[]", "char[]", "byte[]");
    /** Those of rule 4 that the program has a use for; another that rule 4 lists may be added. */
    private static final Set<String> CALLS = Set.of("java.lang.Math.abs", "java.lang.Math.max", "java.lang.Math.min",
            "java.lang.Integer.bitCount", "java.lang.System.arraycopy", "java.lang.String.length",
            "java.lang.String.charAt");

    public static void main(String[] args) throws Exception {
        String source = Files.readString(PROGRAM);
        CHECK.holds("signs are 10 and 32 to 126", source.chars().allMatch(c -> c == 10 || c >= 32 && c < 127));
        String code = source.replaceAll("(?s)/\\*.*?\\*/", "").replaceAll("//[^\n]*", "")
                .replaceAll("\"[^\"\n]*\"", "\"\"").replaceAll("'[^'\n]'", "' '");
        words(code);
        library(code);
        Program program = Program.of(PROGRAM);
        methods(program);
        names(program);
        parts(program);
        CHECK.finish();
    }

    private static void words(String code) {
        String[] never = {"throw", "throws", "try", "catch", "synchronized", "assert", "import", "package", "protected",
            "var", "double", "float", "hashCode", "toString", "volatile", "native", "transient"};
        for (String word : never) {
            CHECK.holds("no " + word, !Pattern.compile("\\b" + word + "\\b").matcher(code).find());
        }
        CHECK.holds("no lambda, no method reference", !code.contains("->") && !code.contains("::"));
        CHECK.holds("no static initialiser", !Pattern.compile("static\\s*\\{").matcher(code).find());
        CHECK.holds("no local or inner class", !Pattern.compile("(?m)^(?! *private static final |public final )[^\n]*\\bclass\\b").matcher(code).find());
        CHECK.holds("twelve classes at most", code.split("\\bclass\\b").length - 1 <= 12);
    }

    private static void library(String code) {
        Set<String> own = new TreeSet<>();
        Matcher classes = Pattern.compile("\\bclass (\\w+)").matcher(code);
        while (classes.find()) {
            own.add(classes.group(1));
        }
        Matcher names = Pattern.compile("\\b[A-Z][a-z]\\w*").matcher(code);
        while (names.find()) {
            CHECK.holds(names.group() + " is the library's or own", LIBRARY.contains(names.group()) || own.contains(names.group()));
        }
        CHECK.holds("no function that ends in Exact", !code.contains("Exact("));
    }

    private static void methods(Program program) {
        CHECK.holds("methods are found", program.calls.size() > 44);
        program.parameters.forEach((name, n) -> CHECK.holds("rule 11, parameters of " + name + ": " + n, n <= 7));
        program.lines.forEach((name, n) -> CHECK.holds("rule 11, lines of " + name + ": " + n, n <= 60));
        CHECK.holds("rule 11, classes: " + program.fields.size(), program.fields.size() <= 12);
        program.fields.forEach((name, n) -> CHECK.holds("rule 11, fields of " + name + ": " + n, n <= 20));
        for (String name : program.calls.keySet()) {
            CHECK.holds("rule 11, calls from " + name + " go eight deep at most", depth(program, name, 0) <= 8);
        }
        CHECK.holds("no call makes an object: " + program.madeInMethods, program.madeInMethods.isEmpty());
    }

    /** How many calls stand open at most; rule 8: what calls itself is found by its depth. */
    private static int depth(Program program, String name, int above) {
        if (above > 8) {
            return above;
        }
        int deepest = above + 1;
        for (String called : program.calls.get(name)) {
            deepest = Math.max(deepest, depth(program, called, above + 1));
        }
        return deepest;
    }

    private static void names(Program program) {
        Set<String> open = new TreeSet<>();
        for (Method method : RocketPrint.class.getDeclaredMethods()) {
            if (Modifier.isPublic(method.getModifiers())) {
                open.add(method.getName());
            }
        }
        for (String name : program.calls.keySet()) {
            String last = name.substring(name.lastIndexOf('.') + 1);
            boolean inside = !name.equals("RocketPrint." + last);
            CHECK.holds("rule 1, " + name + " bears the name of a public method", !inside || !open.contains(last));
        }
    }

    private static void parts(Program program) {
        CHECK.holds("rules 2, 5, 6, 10: " + program.ruledOut, program.ruledOut.isEmpty());
        for (String type : program.types) {
            boolean own = type.startsWith("RocketPrint");
            CHECK.holds("rule 3, the type " + type, own || TYPES.contains(type.replace("[]", "")));
        }
        CHECK.holds("rule 3, no more than two dimensions", program.types.stream().noneMatch(t -> t.contains("[][][]")));
        for (String type : program.staticFields) {
            CHECK.holds("rule 5, a static " + type, CONSTANTS.contains(type));
        }
        for (String call : program.libraryCalls) {
            CHECK.holds("rule 4, " + call, CALLS.contains(call));
        }
    }
}
