import java.io.IOException;
import java.nio.file.Files;
import java.nio.file.Path;
import java.util.LinkedHashMap;
import java.util.Map;
import java.util.regex.Matcher;
import java.util.regex.Pattern;

/**
 * Checks that stand for words of the document. The words are looked up in the part of the document
 * that they are said to stand in, told with each wrong answer, and at the end every word of the
 * terms and of the promises must have been stood for.
 */
final class Sentences {
    static final String OF_ALL = "What it is";

    private final Checks checks = new Checks();
    private final Map<String, String> parts = new LinkedHashMap<>();
    private final Map<String, boolean[]> stoodFor = new LinkedHashMap<>();
    private String now = "";

    Sentences(Path document) throws IOException {
        String text = Files.readString(document);
        parts.put(OF_ALL, plain(between(text, "## What it is", "## The public face")));
        // The last remarks of the terms tell the order of the face's comments, not the class.
        String terms = between(text, "## Terms", "## Promise 1:").replaceAll("(?m)^Ahead of the calls .*$", "");
        String[] byTerm = terms.split("======== \\d ");
        for (int term = 0; term < byTerm.length; term++) {
            parts.put(termName(term), plain(byTerm[term]));
        }
        Matcher promise = Pattern.compile("(?s)## Promise (\\d+):[^\n]*\\s+`[^`]*`: (.*?)(?=\n## )").matcher(text);
        while (promise.find()) {
            parts.put(promiseName(Integer.parseInt(promise.group(1))), plain(promise.group(2)));
        }
        checks.due("parts of the document", parts.size(), 1 + 6 + 23);
        for (String name : parts.keySet()) {
            stoodFor.put(name, new boolean[parts.get(name).length()]);
        }
    }

    private static String between(String text, String from, String to) {
        return text.substring(text.indexOf(from) + from.length(), text.indexOf(to));
    }

    private static String plain(String text) {
        return text.replaceAll("```\\w*", " ").replaceAll("\\s+", " ").strip();
    }

    private static String termName(int term) {
        return "term " + term;
    }

    private static String promiseName(int promise) {
        return "promise " + promise;
    }

    /** The checks from here on stand for these words of a term; term 0 is what is told ahead of them. */
    void term(int term, String words) {
        standIn(termName(term), words);
    }

    /** The checks from here on stand for these words of a promise. */
    void promise(int promise, String words) {
        standIn(promiseName(promise), words);
    }

    /** The checks from here on stand for these words of what the class is. */
    void ofAll(String words) {
        standIn(OF_ALL, words);
    }

    private void standIn(String part, String words) {
        now = part + " \"" + words + "\": ";
        String text = parts.getOrDefault(part, "");
        int at = text.indexOf(words);
        checks.due(now + "stands in the document", at >= 0 ? 1 : 0, 1);
        for (int k = 0; at >= 0 && k < words.length(); k++) {
            stoodFor.get(part)[at + k] = true;
        }
    }

    void due(String call, long got, long want) {
        checks.due(now + call, got, want);
    }

    void due(String what, String got, String want) {
        checks.due(now + what, got, want);
    }

    void end() {
        for (String name : parts.keySet()) {
            if (!name.equals(OF_ALL)) {
                checks.due(name + ": words that no check stands for", notStoodFor(name), "");
            }
        }
        checks.end();
    }

    private String notStoodFor(String name) {
        StringBuilder left = new StringBuilder();
        boolean[] stood = stoodFor.get(name);
        for (int k = 0; k < stood.length; k++) {
            left.append(stood[k] ? ' ' : parts.get(name).charAt(k));
        }
        // Stops and brackets between words say nothing alone.
        return left.toString().replaceAll("[^A-Za-z0-9]+", " ").strip();
    }
}
