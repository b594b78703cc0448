import java.io.IOException;
import java.nio.charset.StandardCharsets;
import java.nio.file.Files;
import java.nio.file.Path;
import java.util.regex.Matcher;
import java.util.regex.Pattern;

/** The text of ../shared/DOC.md, and which of its words have a test that names them. */
final class Document {
    private static final Path FILE = Path.of("../shared/DOC.md");
    private static final int PROMISES = 34, PREFACE = 0, TERMS = PROMISES + 1;
    private static final int SHOWN = 60;

    /** 0: what stands ahead of the face; 1 to 34: the promises; 35: the terms. */
    private final String[] sections = new String[TERMS + 1];
    private final boolean[][] covered = new boolean[TERMS + 1][];

    private final boolean isThere = Files.exists(FILE);

    Document() throws IOException {
        if (!isThere) {
            System.out.println("no " + FILE + ": the sentences are tested, but not looked up in it");
            return;
        }
        String text = Files.readString(FILE, StandardCharsets.UTF_8);
        sections[PREFACE] = plain(between(text, "## What it is", "## The public face"));
        sections[TERMS] = plain(between(text, "## Terms", "## Promise 1:"));
        for (int promise = 1; promise <= PROMISES; promise++) {
            String end = promise < PROMISES ? "## Promise " + (promise + 1) + ":" : "## Not promised";
            sections[promise] = plain(between(text, "## Promise " + promise + ":", end));
        }
        for (int i = 0; i < sections.length; i++) {
            covered[i] = new boolean[sections[i].length()];
        }
    }

    private static String between(String text, String begin, String end) {
        int from = text.indexOf(begin);
        int to = text.indexOf(end, Math.max(from, 0));
        Check.holds("the document has " + begin + " .. " + end, from >= 0 && to > from);
        return from >= 0 && to > from ? text.substring(from + begin.length(), to) : "";
    }

    /** Without headings, faces and fences, and with one blank for each run of them. */
    private static String plain(String section) {
        String text = section.replaceFirst("\\A [\\w ]+\n", "");
        text = text.replaceAll("(?m)^`.*?\\)`:", "").replaceAll("(?m)^Ahead of the calls .*$", "");
        text = text.replaceAll("(?m)^```(text)?$", "").replaceAll("======== [1-4] ", " ");
        return text.replaceAll("\\s+", " ").strip();
    }

    /** A sentence stands in its promise, or in the terms, or ahead of the face. */
    void cover(int promise, String sentence) {
        if (!isThere) {
            return;
        }
        for (int section : new int[] {promise, TERMS, PREFACE}) {
            if (sections[section].contains(sentence)) {
                coverIn(section, sentence);
                return;
            }
        }
        Check.holds("promise " + promise + ": the document says \"" + sentence + "\"", false);
    }

    private void coverIn(int section, String sentence) {
        Matcher place = Pattern.compile(sentence, Pattern.LITERAL).matcher(sections[section]);
        while (place.find()) {
            for (int i = place.start(); i < place.end(); i++) {
                covered[section][i] = true;
            }
        }
    }

    /** Each word of the terms and of the promises must stand in a sentence that has a test. */
    void checkAll() {
        for (int section = 1; isThere && section < sections.length; section++) {
            Check.holds("section " + section + " has a text", !sections[section].isEmpty());
            for (int i = 0; i < sections[section].length(); i++) {
                if (!covered[section][i] && Character.isLetterOrDigit(sections[section].charAt(i))) {
                    int end = Math.min(i + SHOWN, sections[section].length());
                    Check.holds("section " + section + " has a test for \"" + sections[section].substring(i, end) + "\"", false);
                    break;
                }
            }
        }
    }
}
