import java.io.IOException;
import java.nio.file.Files;
import java.nio.file.Path;
import java.util.ArrayList;
import java.util.List;
import java.util.TreeMap;

/** The document's sentences: which of them a test has quoted, and which none has. */
final class Quotes {
    private static final Path DOC = Path.of("../shared/DOC.md");
    /** The number under which the sentences of "Terms" stand, on which promises rest. */
    private static final int TERMS = 0;

    private final TreeMap<Integer, String> texts = new TreeMap<>();
    private final TreeMap<Integer, boolean[]> quoted = new TreeMap<>();
    private int count = 0;
    private int wrong = 0;

    Quotes() throws IOException {
        if (!Files.exists(DOC)) {
            System.out.println("edges: no " + DOC + ", so quotes are not looked up");
            return;
        }
        for (String section : Files.readString(DOC).split("\n## ")) {
            String text = section.replace("```text", " ").replace("```", " ").replaceAll("\\s+", " ").trim();
            if (text.startsWith("Terms ")) {
                put(TERMS, text.substring(6).replaceAll("The constants: .*", ""));
            } else if (text.startsWith("Promise ")) {
                put(Integer.parseInt(text.substring(8, text.indexOf(':'))), text.substring(text.indexOf("`: ") + 3));
            }
        }
    }

    private void put(int section, String text) {
        texts.put(section, text);
        quoted.put(section, new boolean[text.length()]);
    }

    /** A quote belongs to a promise; it stands there, or in the terms. */
    void note(int promise, String sentence) {
        count++;
        if (texts.isEmpty() || mark(promise, sentence) || mark(TERMS, sentence)) {
            return;
        }
        wrong++;
        System.out.println("edges: promise " + promise + " has no words '" + sentence + "'");
    }

    private boolean mark(int section, String sentence) {
        String text = texts.getOrDefault(section, "");
        int from = text.indexOf(sentence);
        boolean found = from >= 0;
        while (from >= 0) {
            for (int i = from; i < from + sentence.length(); i++) {
                quoted.get(section)[i] = true;
            }
            from = text.indexOf(sentence, from + sentence.length());
        }
        return found;
    }

    /** Tells what no test has quoted: how many such stretches, and quotes that don't stand in the document. */
    int end() {
        for (int section : texts.keySet()) {
            for (String left : unquoted(section)) {
                wrong++;
                System.out.println("edges: no test for " + (section == TERMS ? "the terms" : "promise " + section)
                        + ": '" + left + "'");
            }
        }
        System.out.println("edges: " + count + " sentences tried");
        return wrong;
    }

    private List<String> unquoted(int section) {
        String text = texts.get(section);
        boolean[] done = quoted.get(section);
        List<String> lefts = new ArrayList<>();
        StringBuilder left = new StringBuilder();
        for (int i = 0; i <= text.length(); i++) {
            if (i < text.length() && !done[i]) {
                left.append(text.charAt(i));
            } else {
                // signs between quotes are no sentence
                String words = left.toString().replaceAll("====? \\d\\.", " ").trim();
                if (words.matches(".*[A-Za-z0-9].*") && !words.matches("[;,. ]*(and|or)[;,. ]*")) {
                    lefts.add(words);
                }
                left.setLength(0);
            }
        }
        return lefts;
    }
}
