import java.io.IOException;
import java.nio.charset.StandardCharsets;
import java.nio.file.Files;
import java.nio.file.Path;
import java.util.ArrayList;
import java.util.LinkedHashMap;
import java.util.List;
import java.util.Map;
import java.util.regex.Matcher;
import java.util.regex.Pattern;
import java.util.stream.Stream;

/**
 * The remarks of the boundary tests: each test has one, what it quotes stands in the document under the heading that it
 * names, and each sentence of the document has a test, but for those that name no boundary.
 */
public final class RemarksTest {
    /** A heading of the document, and its text in one line. */
    private static final Map<String, String> SECTIONS = new LinkedHashMap<>();
    /** The sentences under a heading, those after "-" of a parameter too. */
    private static final Map<String, List<String>> SENTENCES = new LinkedHashMap<>();
    /** What the boundary tests quote from under a heading. */
    private static final Map<String, List<String>> QUOTES = new LinkedHashMap<>();

    /** Sentences that name no boundary: what an answer is, is told by the sentences around them. */
    private static final List<String> NO_BOUNDARY = List.of("In doubt, too.", "Returns a number of a house.",
        "Returns a number of a sheet.", "Returns the number.", "Returns a letter of a sheet.", "Returns the letter.",
        "Returns what is at a place.", "Returns the shame.", "Returns how often.", "Returns the sheet with that word.",
        "Returns the house.", "Returns the sheet.", "Returns the character.", "Returns the reason or the detail.",
        "Returns an account.", "Returns the account.", "Returns whether this is so.", "Returns whether it could.",
        "what later calls answer is free.", "coins: its coins", "isAgain: whether the second way is taken");

    public static void main(String[] args) throws IOException {
        readDocument(Files.readString(Path.of("../shared/DOC.md"), StandardCharsets.UTF_8));
        try (Stream<Path> files = Files.list(Path.of("src/test/java"))) {
            for (Path file : files.filter(path -> path.toString().endsWith("BoundaryTest.java")).sorted().toList()) {
                readRemarks(Files.readString(file, StandardCharsets.UTF_8), file.getFileName().toString());
            }
        }
        Check.due("headings", SECTIONS.size(), 41);
        for (String heading : SECTIONS.keySet()) {
            dueCovered(heading);
        }
        Check.finish();
    }

    private static String plain(String text) {
        return text.replace("`", "").replaceAll("\\s+", " ").trim();
    }

    private static void readDocument(String document) {
        for (String part : document.split("(?m)^## ")) {
            String heading = part.lines().findFirst().orElse("");
            if (heading.matches("(What it is|Terms|Promise \\d+: .*)")) {
                String name = heading.replaceAll("(Promise \\d+): .*", "$1");
                String body = part.substring(heading.length()).replaceAll("(?m)^`[^`]*`: ", "");
                SECTIONS.put(name, plain(body));
                SENTENCES.put(name, sentencesOf(body));
                QUOTES.put(name, new ArrayList<>());
            }
        }
    }

    private static List<String> sentencesOf(String body) {
        List<String> sentences = new ArrayList<>();
        for (String block : body.split("\n\\s*\n|\n(?=- )")) {
            for (String sentence : plain(block).replaceAll("^- ", "").split("(?<=\\.) (?=[A-Z\"])|(?<=;) ")) {
                if (!isWithoutBoundary(sentence)) {
                    sentences.add(sentence.replaceAll("[.;]$", ""));
                }
            }
        }
        return sentences;
    }

    /** Headings of one word, parameters that are just named, and what stands in the list. */
    private static boolean isWithoutBoundary(String sentence) {
        return sentence.matches("\\w*\\.?|(\\w+): the (\\1|character)|A press that prints only .*|Ahead of the calls .*")
            || NO_BOUNDARY.contains(sentence);
    }

    private static void readRemarks(String source, String file) {
        String joined = source.replaceAll("\n     \\*(?!/)", "");
        Matcher remark = Pattern.compile("/\\*\\* (What it is|Terms|Promise \\d+): \"(.*)\"\\s+\\*/\n    static void (\\w+)\\(\\) \\{")
            .matcher(joined);
        int remarks = 0;
        while (remark.find()) {
            remarks++;
            String quote = plain(remark.group(2));
            String section = SECTIONS.getOrDefault(remark.group(1), "");
            Check.due(file + ": " + remark.group(3) + " quotes the document", section.contains(quote), true);
            QUOTES.get(remark.group(1)).add(quote);
        }
        long tests = Pattern.compile("(?m)^    static void \\w+\\(\\) \\{").matcher(source).results().count();
        Check.due(file + ": tests with a remark", remarks, tests);
    }

    private static void dueCovered(String heading) {
        for (String sentence : SENTENCES.get(heading)) {
            boolean isCovered = false;
            for (String quote : QUOTES.get(heading)) {
                isCovered |= quote.contains(sentence) || sentence.contains(quote);
            }
            Check.due(heading + ": a test of \"" + sentence + "\"", isCovered, true);
        }
    }
}
