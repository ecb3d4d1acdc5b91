import java.io.IOException;
import java.nio.file.Files;
import java.nio.file.Path;
import java.util.ArrayList;
import java.util.LinkedHashMap;
import java.util.List;
import java.util.Map;

/**
 * The sentences of the document under their headings. Each test begins by naming the heading and quoting the sentences
 * that it is for; in the end every sentence must have been quoted, or be one of those that name no boundary.
 */
final class Sentences {
    private final Check check;
    private final Map<String, List<String>> unquoted = new LinkedHashMap<>();
    private final Map<String, String> texts = new LinkedHashMap<>();
    private String name = "";
    private final Map<String, Integer> tests = new LinkedHashMap<>();

    Sentences(Check check, Path document) throws IOException {
        this.check = check;
        read(Files.readString(document));
    }

    private void read(String document) {
        String heading = "";
        for (String line : document.split("\n")) {
            if (line.startsWith("#")) {
                heading = line.replaceAll("^#+ ", "").replaceAll("^(Promise \\d+):.*", "$1");
            } else if (!line.isBlank()) {
                // A promise's first line tells the method's head before its sentences.
                String text = plain(heading.startsWith("Promise") ? line.replaceAll("^`.*`: ", "") : line);
                texts.merge(heading, text, (before, more) -> before + "\n" + more);
                String ends = text.startsWith("Throws") ? "; |, (?=or )" : "(?<=\\.) |; ";
                for (String sentence : text.split(ends)) {
                    unquoted.computeIfAbsent(heading, none -> new ArrayList<>()).add(sentence);
                }
            }
        }
    }

    private static String plain(String text) {
        return text.replace("`", "").replaceAll("^- ", "");
    }

    /** Begins the test of these sentences, or parts of them. */
    void test(String heading, String... sentences) {
        tests.merge(heading, 1, Integer::sum);
        quote(heading, sentences);
    }

    /** Names sentences that tell of no boundary. */
    void none(String heading, String... sentences) {
        quote(heading, sentences);
    }

    /** Names a heading under which no sentence tells of a boundary. */
    void noneUnder(String heading) {
        check.is(heading + " is a heading", () -> unquoted.remove(heading) != null, true);
    }

    private void quote(String heading, String... sentences) {
        name = heading + " \"" + String.join("\", \"", sentences) + "\"";
        for (String sentence : sentences) {
            check.is(name + " is said there", () -> texts.getOrDefault(heading, "").contains(sentence), true);
            unquoted.getOrDefault(heading, new ArrayList<>())
                    .removeIf(said -> said.contains(sentence) || sentence.contains(said));
        }
    }

    void is(String what, Check.Call call, Object due) {
        check.is(name + ": " + what, call, due);
    }

    void refuses(String what, Store x, Check.StoreCall call, Object due) {
        check.refuses(name + ": " + what, x, call, due);
    }

    void end() {
        for (Map.Entry<String, List<String>> under : unquoted.entrySet()) {
            check.is("sentences without a test under " + under.getKey(), () -> under.getValue(), "[]");
        }
        for (int promise = 1; promise <= 29; promise++) {
            String heading = "Promise " + promise;
            check.is(heading + " has a test", () -> tests.containsKey(heading), true);
        }
        StringBuilder counted = new StringBuilder("Boundaries: tests of sentences");
        for (String heading : texts.keySet()) {
            counted.append(", ").append(heading).append(": ").append(tests.getOrDefault(heading, 0));
        }
        System.out.println(counted);
        check.end();
    }
}
