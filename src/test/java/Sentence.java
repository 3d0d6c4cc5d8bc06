import java.io.IOException;
import java.nio.file.Files;
import java.nio.file.Path;
import java.util.ArrayList;
import java.util.List;

/** The sentence of the document that is being tested: it must stand there, word by word. */
final class Sentence {
    static final int FACE = -1;
    static final int TERMS = 0;
    private static final int PROMISES = 58;
    private static final Path DOCUMENT = Path.of("../shared/DOC.md");

    // by promise, the terms first and the rest of the document last; null where there is no document to look into
    private static String[] sections;
    private static final List<List<String>> NAMED = new ArrayList<>();

    private Sentence() {
    }

    /** What is looked at from here on is this sentence of a promise (or of the terms, 0). */
    static void of(int promise, String words) {
        Check.topic(nameOf(promise) + ", '" + words + "'");
        load();
        NAMED.get(index(promise)).add(words);
        if (sections != null) {
            Check.due("it stands in the document", sections[index(promise)].contains(words), true);
        }
    }

    /** Each part of each promise and of the terms must have been named by some test. */
    static void allNamed() {
        load();
        for (int promise = TERMS; sections != null && promise <= PROMISES; promise++) {
            Check.topic(nameOf(promise));
            // .. tells a range and ends nothing
            for (String part : sections[promise].split("(?<!\\.)[;.|] ")) {
                Check.due("there is a test of '" + part + "'", isNamed(promise, part.strip()), true);
            }
        }
    }

    private static boolean isNamed(int promise, String part) {
        for (String words : NAMED.get(promise)) {
            if (words.contains(part) || part.contains(words)) {
                return true;
            }
        }
        return part.isEmpty();
    }

    private static String nameOf(int promise) {
        return promise == FACE ? "What it is" : promise == TERMS ? "Terms" : "Promise " + promise;
    }

    private static int index(int promise) {
        return promise == FACE ? PROMISES + 1 : promise;
    }

    private static void load() {
        if (!NAMED.isEmpty()) {
            return;
        }
        for (int i = 0; i <= PROMISES + 1; i++) {
            NAMED.add(new ArrayList<>());
        }
        try {
            cut(Files.readString(DOCUMENT));
        } catch (IOException e) {
            System.out.println("no document at " + DOCUMENT + ": sentences are not looked up");
        }
    }

    private static void cut(String text) {
        sections = new String[PROMISES + 2];
        sections[TERMS] = plain(between(text, "## Terms\n", "## Promise 1:"));
        for (int promise = 1; promise <= PROMISES; promise++) {
            String next = promise == PROMISES ? "## Not promised" : "## Promise " + (promise + 1) + ":";
            String whole = plain(between(text, "## Promise " + promise + ":", next));
            // behind the heading and the call in quotes
            sections[promise] = whole.substring(whole.indexOf("`: ") + 3);
        }
        sections[PROMISES + 1] = plain(between(text, "## What it is", "## The public face"));
    }

    private static String between(String text, String from, String to) {
        int start = text.indexOf(from) + from.length();
        return text.substring(start, text.indexOf(to, start));
    }

    private static String plain(String text) {
        return text.replaceAll("```(text)?|==== [0-9]\\.", " ").replaceAll("\\s+", " ").strip();
    }
}
