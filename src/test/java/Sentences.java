import java.io.IOException;
import java.nio.file.Files;
import java.nio.file.Path;
import java.util.BitSet;
import java.util.Map;
import java.util.TreeMap;
import java.util.regex.Matcher;
import java.util.regex.Pattern;

/** Tests by sentences of the document: each names its own, which must stand there word for word. */
final class Sentences {
    static final int USE = -1, TERMS = 0, PROMISES = 45;

    private final Check check = new Check();
    private final Map<Integer, String> sections = new TreeMap<>();
    private final Map<Integer, BitSet> named = new TreeMap<>();

    Sentences() throws IOException {
        String doc = Files.readString(Path.of("../shared/DOC.md"));
        section(USE, "An object" + between(between(doc, "## What it is", "## The public face") + "##", "An object", "##"));
        section(TERMS, between(doc, "## Terms", "Ahead of the calls").replace("```text", "").replace("```", "")
                .replace("======== 1 ", ""));
        Matcher m = Pattern.compile("(?s)\n## Promise (\\d+): [^\n]*\n\n`[^`]*`: (.*?)(?=\n## )").matcher(doc);
        while (m.find()) {
            section(Integer.parseInt(m.group(1)), m.group(2));
        }
        check.due("sections of the document", sections.size(), PROMISES + 2);
    }

    private static String between(String doc, String from, String to) {
        int start = doc.indexOf(from) + from.length();
        return doc.substring(start, doc.indexOf(to, start));
    }

    private void section(int number, String words) {
        sections.put(number, words.replaceAll("\\s+", " ").trim());
        named.put(number, new BitSet());
    }

    Check check() {
        return check;
    }

    void use(String sentence, Runnable test) {
        test(USE, sentence, test);
    }

    void term(String sentence, Runnable test) {
        test(TERMS, sentence, test);
    }

    void promise(int number, String sentence, Runnable test) {
        test(number, sentence, test);
    }

    private void test(int number, String sentence, Runnable test) {
        String where = number == USE ? "What it is" : number == TERMS ? "Terms" : "promise " + number;
        int start = sections.get(number).indexOf(sentence);
        check.holds(where + " says: " + sentence, start >= 0);
        if (start >= 0) {
            named.get(number).set(start, start + sentence.length());
        }
        int looked = check.looked();
        int wrong = check.wrongs();
        test.run();
        check.holds("something is looked at for: " + sentence, check.looked() > looked);
        if (check.wrongs() > wrong) {
            System.out.println("  so it is not as " + where + " says: " + sentence);
        }
    }

    /** Every sentence has been named by a test. */
    void finish() {
        for (Map.Entry<Integer, String> section : sections.entrySet()) {
            StringBuilder left = new StringBuilder();
            for (int i = 0; i < section.getValue().length(); i++) {
                left.append(named.get(section.getKey()).get(i) ? ' ' : section.getValue().charAt(i));
            }
            check.holds("every sentence of section " + section.getKey() + " has a test; left: " + left.toString().trim(),
                    left.toString().isBlank());
        }
        check.finish();
    }
}
