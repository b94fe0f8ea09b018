import java.io.IOException;
import java.nio.file.Files;
import java.nio.file.Path;
import java.util.Arrays;
import java.util.LinkedHashMap;
import java.util.Map;

/**
 * Ties tests to the sentences of the document: a test bears the sentence that it stands for, a sentence
 * that does not stand there is a fault, and at the end so is one that no test bears.
 */
final class Sentences {
    private static final Path DOCUMENT = Path.of("../shared/DOC.md");

    private final Map<String, String> texts = new LinkedHashMap<>();
    private final Map<String, boolean[]> told = new LinkedHashMap<>();
    private String section = "";

    Sentences() throws IOException {
        for (String part : Files.readString(DOCUMENT).split("(?m)^## ")) {
            String[] halves = part.split("\n", 2);
            if (halves[0].equals("What it is")) {
                keep(halves[0], halves[1]);
            } else if (halves[0].equals("Terms")) {
                splitTerms(halves[1]);
            } else if (halves[0].startsWith("Promise ")) {
                // What stands before the first colon is the signature, which LanguageTest compares.
                keep(halves[0].split(":")[0], halves[1].trim().split("`: ", 2)[1]);
            }
        }
        Check.due("sections of the document", texts.size(), 1 + 1 + 10 + 1 + 38);
    }

    /** A paragraph that begins with a word in capitals, which is its name, or with the constants, begins a section. */
    private void splitTerms(String terms) {
        String name = "Terms";
        StringBuilder text = new StringBuilder();
        for (String paragraph : terms.split("\n\n")) {
            String first = paragraph.trim().split("[.:]", 2)[0];
            if (first.matches("[A-Z]{3,}") || first.equals("The constants")) {
                keep(name, text.toString());
                text.setLength(0);
                name = first;
            }
            text.append(paragraph.replaceFirst("^[A-Z]{3,}\\. ", "")).append("\n\n");
        }
        keep(name, text.toString());
    }

    private void keep(String name, String text) {
        String folded = fold(text);
        texts.put(name, folded);
        told.put(name, new boolean[folded.length()]);
    }

    private static String fold(String text) {
        return text.replaceAll("\\s+", " ").trim();
    }

    void in(String name) {
        section = name;
        Check.under(name + ": ");
        if (!texts.containsKey(name)) {
            Check.fail("the document has no such section");
        }
    }

    /** The test is due to fail if the class breaks this sentence. */
    void says(String sentence, Check.Call test) {
        Check.under(section + ": ");
        mark(sentence);
        Check.under(section + ": \"" + sentence + "\": ");
        int before = Check.seen();
        Class<?> stray = Check.thrown(test);
        if (stray != null) {
            Check.fail("the test ended with " + stray);
        }
        if (Check.seen() == before) {
            Check.fail("the test looks at nothing");
        }
    }

    /** Words that promise nothing by themselves. */
    void rests(String... sentences) {
        Check.under(section + ": ");
        for (String sentence : sentences) {
            mark(sentence);
        }
    }

    private void mark(String sentence) {
        String text = texts.getOrDefault(section, "");
        boolean[] marks = told.getOrDefault(section, new boolean[0]);
        int at = text.indexOf(sentence);
        while (at >= 0 && marks[at]) {
            at = text.indexOf(sentence, at + 1);
        }
        if (at < 0 || sentence.isEmpty()) {
            Check.fail("the document does not say \"" + sentence + "\", or not so often");
            return;
        }
        Arrays.fill(marks, at, at + sentence.length(), true);
    }

    void end() {
        Check.under("");
        texts.forEach((name, text) -> {
            StringBuilder left = new StringBuilder();
            for (int k = 0; k < text.length(); k++) {
                left.append(told.get(name)[k] ? ' ' : text.charAt(k));
            }
            if (left.toString().matches("(?s).*[A-Za-z0-9].*")) {
                Check.fail(name + ": no test bears \"" + fold(left.toString()) + "\"");
            }
        });
    }
}
