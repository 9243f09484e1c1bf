import java.io.IOException;
import java.lang.reflect.InvocationTargetException;
import java.lang.reflect.Method;
import java.lang.reflect.Modifier;
import java.nio.file.Files;
import java.nio.file.Path;
import java.util.ArrayList;
import java.util.Arrays;
import java.util.Comparator;
import java.util.LinkedHashMap;
import java.util.List;
import java.util.Map;

/** Which sentence of the document a test holds, what was answered wrongly, and whether the document has these words at all. */
final class Sentences {
    private static final int PROMISES = 26;
    private static final List<String> DESCRIPTION =
        List.of("Programs", "Texts", "Runs", "Tail calls and returns", "Simplification", "Errors", "The constants:");
    /** The order of operands cannot be seen, since no operand changes anything; the others only lead over to what follows. */
    private static final List<String> NOTHING_TO_ASK = List.of("Operands are evaluated from left to right", " and ", " `what`: ",
        "The constructor and the methods follow, a promise each: the signature, then what it does.");
    private static final List<Quote> QUOTES = new ArrayList<>();
    private static int wrong = 0;
    private static int asked = 0;

    private Sentences() {
    }

    private static final class Quote {
        final int promise;
        final String section;
        final String words;

        Quote(int promise, String section, String words) {
            this.promise = promise;
            this.section = section;
            this.words = words;
        }
    }

    /** What is asked from here on tests these words, which stand in the promise itself. */
    static void says(int promise, String words) {
        says(promise, "Promise " + promise, words);
    }

    /** What is asked from here on tests these words of another section, on which the promise rests. */
    static void says(int promise, String section, String words) {
        QUOTES.add(new Quote(promise, section, words));
    }

    static void due(String what, int got, int want) {
        asked++;
        if (got != want) {
            fault(what + " answered " + got + ", due is " + want);
        }
    }

    static void due(String what, String got, String want) {
        asked++;
        if (!got.equals(want)) {
            fault(what + " is '" + got + "', due is '" + want + "'");
        }
    }

    private static void fault(String what) {
        wrong++;
        Quote q = QUOTES.isEmpty() ? new Quote(0, "", "") : QUOTES.get(QUOTES.size() - 1);
        System.out.println("promise " + q.promise + ", " + q.section + ", \"" + q.words + "\": " + what);
    }

    static int faults() {
        return wrong;
    }

    static int quotes() {
        return QUOTES.size();
    }

    static int questions() {
        return asked;
    }

    /** Every method without parameters that is not private is a test; none can be forgotten so. */
    static void runAll(Class<?> chapter) throws IllegalAccessException, InvocationTargetException {
        Method[] methods = chapter.getDeclaredMethods();
        Arrays.sort(methods, Comparator.comparing(Method::getName));
        for (Method m : methods) {
            if (m.getParameterCount() > 0 || Modifier.isPrivate(m.getModifiers())) {
                continue;
            }
            int quotedBefore = QUOTES.size();
            int askedBefore = asked;
            m.invoke(null);
            if (QUOTES.size() == quotedBefore || asked == askedBefore) {
                fault(m.getName() + " says no sentence, or asks nothing");
            }
        }
    }

    /** Looks whether the words stand where they are said to, and whether every sentence is quoted. */
    static void compareWithDocument(Path document) throws IOException {
        boolean[] met = new boolean[PROMISES + 1];
        for (Quote q : QUOTES) {
            met[q.promise] = true;
        }
        for (int promise = 1; promise <= PROMISES; promise++) {
            if (!met[promise]) {
                fault("no boundary of promise " + promise + " is tested");
            }
        }
        if (!Files.isReadable(document)) {
            System.out.println("there is no " + document + ": the quoted words are not compared with it");
            return;
        }
        Map<String, String> sections = sections(Files.readAllLines(document));
        for (Quote q : QUOTES) {
            if (!sections.getOrDefault(q.section, "").contains(q.words)) {
                fault("these words do not stand in '" + q.section + "': " + q.words);
            }
        }
        for (Map.Entry<String, String> section : sections.entrySet()) {
            if (DESCRIPTION.contains(section.getKey()) || section.getKey().startsWith("Promise ")) {
                allIsQuoted(section.getKey(), section.getValue());
            }
        }
    }

    /** No word of a section may be left over, but for what no answer can show. */
    private static void allIsQuoted(String section, String text) {
        boolean[] quoted = new boolean[text.length()];
        for (Quote q : QUOTES) {
            if (q.section.equals(section)) {
                mark(quoted, text, q.words);
            }
        }
        for (String words : NOTHING_TO_ASK) {
            mark(quoted, text, words);
        }
        StringBuilder rest = new StringBuilder();
        for (int i = 0; i < text.length(); i++) {
            rest.append(quoted[i] ? '|' : text.charAt(i));
        }
        String left = rest.toString().replaceFirst("^ `[^`]*`( ---- [a-z ]*[a-z](?= [A-Z|]))?", "").replaceAll("[^A-Za-z0-9]+", " ").trim();
        if (!left.isEmpty()) {
            fault("in '" + section + "', no test says: " + left);
        }
    }

    private static void mark(boolean[] quoted, String text, String words) {
        for (int from = text.indexOf(words); from >= 0; from = text.indexOf(words, from + 1)) {
            Arrays.fill(quoted, from, from + words.length(), true);
        }
    }

    private static Map<String, String> sections(List<String> lines) {
        Map<String, String> sections = new LinkedHashMap<>();
        String name = "";
        for (String line : lines) {
            if (line.startsWith("## ")) {
                name = line.substring(3).replaceAll("^(Promise \\d+):.*", "$1");
            } else if (DESCRIPTION.contains(line)) {
                name = line;
            } else {
                String before = sections.getOrDefault(name, "");
                sections.put(name, (before + " " + line).replaceAll("\\s+", " "));
            }
        }
        return sections;
    }
}
