import java.lang.reflect.Constructor;
import java.lang.reflect.Field;
import java.lang.reflect.Method;
import java.lang.reflect.Modifier;
import java.nio.file.Files;
import java.nio.file.Path;
import java.util.Arrays;
import java.util.Set;
import java.util.TreeSet;
import java.util.regex.Matcher;
import java.util.regex.Pattern;

/** The class has the face of the document, and no other; the document is found where .ci/run finds it. */
public final class FaceTest {
    private static final Check CHECK = new Check();

    public static void main(String[] args) throws Exception {
        constants();
        members();
        methodsOfTheDocument();
        groupsOfTheDocument();
        CHECK.finish();
    }

    private static void constants() throws Exception {
        String[] names = {"BAD", "STATE", "FULL", "NONE"};
        for (int i = 0; i < names.length; i++) {
            Field field = RocketPrint.class.getField(names[i]);
            CHECK.holds(names[i] + " is an int", field.getType() == int.class);
            CHECK.due(names[i], field.getInt(null), -1 - i);
        }
    }

    private static void members() {
        CHECK.holds("public and final", Modifier.isPublic(RocketPrint.class.getModifiers())
                && Modifier.isFinal(RocketPrint.class.getModifiers()));
        Constructor<?>[] constructors = RocketPrint.class.getDeclaredConstructors();
        CHECK.holds("one public constructor without parameters", constructors.length == 1
                && Modifier.isPublic(constructors[0].getModifiers()) && constructors[0].getParameterCount() == 0);
        int open = 0;
        for (Field field : RocketPrint.class.getDeclaredFields()) {
            if (!Modifier.isPrivate(field.getModifiers())) {
                open++;
            }
            if (Modifier.isStatic(field.getModifiers())) {
                CHECK.holds("static " + field.getName() + " is final", Modifier.isFinal(field.getModifiers()));
            }
        }
        CHECK.due("fields that are not private", open, 4);
        for (Class<?> inside : RocketPrint.class.getDeclaredClasses()) {
            int m = inside.getModifiers();
            CHECK.holds(inside + " is static, private or package-visible",
                    Modifier.isStatic(m) && !Modifier.isPublic(m) && !Modifier.isProtected(m));
        }
    }

    private static void methodsOfTheDocument() throws Exception {
        String doc = Files.readString(Path.of("../shared/DOC.md"));
        Matcher m = Pattern.compile("    public (int|long) (\\w+)\\(([^)]*)\\);").matcher(doc);
        Set<String> due = new TreeSet<>();
        while (m.find()) {
            String types = m.group(3).replaceAll("(\\w+) \\w+", "$1").replace(" ", "");
            due.add(m.group(1) + " " + m.group(2) + "(" + types + ")");
        }
        Set<String> open = new TreeSet<>();
        Set<String> openNames = new TreeSet<>();
        Set<String> closedNames = new TreeSet<>();
        for (Method method : RocketPrint.class.getDeclaredMethods()) {
            if (Modifier.isPrivate(method.getModifiers())) {
                closedNames.add(method.getName());
            } else {
                open.add(signature(method));
                openNames.add(method.getName());
            }
        }
        CHECK.due("methods of the document", due.size(), 44);
        CHECK.holds("methods are those of the document: " + open, open.equals(due));
        closedNames.retainAll(openNames);
        CHECK.holds("no private method bears a public name: " + closedNames, closedNames.isEmpty());
    }

    /** 'Ahead of the calls .. the interface says: ---- ..': so it does in the program, in the document's order. */
    private static void groupsOfTheDocument() throws Exception {
        String doc = Files.readString(Path.of("../shared/DOC.md"));
        String program = Files.readString(Path.of("src/main/java/RocketPrint.java"));
        Matcher groups = Pattern.compile("Ahead of the calls ([^\n]*) the interface says: (---- [^\n]*)\\.\n").matcher(doc);
        int calls = 0;
        int place = 0;
        while (groups.find()) {
            place = found(program, "    // " + groups.group(2) + "\n", place);
            for (String name : groups.group(1).replace("`", "").split(", ")) {
                place = found(program, " " + name + "(", program.indexOf("    public ", place));
                calls++;
            }
        }
        CHECK.due("calls that stand in groups", calls, 44);
    }

    private static int found(String program, String words, int from) {
        int place = program.indexOf(words, Math.max(from, 0));
        CHECK.holds("the program has, in its order: " + words.trim(), place >= 0);
        return Math.max(place, 0);
    }

    private static String signature(Method method) {
        String types = String.join(",", Arrays.stream(method.getParameterTypes()).map(Class::getName).toList());
        return method.getReturnType().getName() + " " + method.getName() + "(" + types + ")";
    }
}
