import java.io.IOException;
import java.nio.file.Files;
import java.nio.file.Path;
import java.util.ArrayList;
import java.util.List;
import java.util.regex.Matcher;
import java.util.regex.Pattern;

/**
 * The runs of src/test/runs/boundaries.txt: each heading quotes the words of the document whose edges are tried below it.
 * The quotes must stand in the document, and every exception, every NONE that a promise names must be quoted.
 */
public final class BoundaryTest {
    public static void main(String[] args) throws IOException {
        Runs runs = new Runs();
        runs.readAll(Path.of(args[0], "src", "test", "runs", "boundaries.txt"));
        String document = Files.readString(Path.of(args[0], "..", "shared", "DOC.md"));
        for (String heading : runs.headings) {
            int colon = heading.indexOf(": ");
            if (!plain(section(document, heading.substring(0, colon))).contains(plain(heading.substring(colon + 2)))) {
                runs.wrong.add("the document does not say: " + heading);
            }
        }
        for (int k = 1; k <= 47; k++) {
            for (String words : edges(section(document, "Promise " + k))) {
                if (!isQuoted(runs.headings, "Promise " + k, words)) {
                    runs.wrong.add("no run for Promise " + k + ": " + words);
                }
            }
        }
        runs.wrong.forEach(System.out::println);
        System.out.println("boundaries: " + runs.headings.size() + " sentences, " + runs.asked + " calls, "
                + runs.wrong.size() + " wrong");
        System.exit(runs.wrong.isEmpty() ? 0 : 1);
    }

    private static String plain(String words) {
        return words.replaceAll("\\s+", " ").trim();
    }

    private static String section(String document, String name) {
        int begin = document.indexOf("\n## " + name + (name.startsWith("Promise") ? ":" : "\n"));
        if (begin < 0) {
            return "";
        }
        int end = document.indexOf("\n## ", begin + 1);
        return document.substring(begin, end < 0 ? document.length() : end);
    }

    /** What a promise says behind its signature, cut where a clause ends: those that refuse, or have nothing to tell. */
    private static List<String> edges(String promise) {
        List<String> found = new ArrayList<>();
        int behind = promise.lastIndexOf("`:");
        if (behind < 0) {
            return found;
        }
        Matcher m = Pattern.compile("[^.;]*(?:\\([^)]*\\)[^.;]*)*[.;]").matcher(promise.substring(behind + 2));
        while (m.find()) {
            String clause = plain(m.group());
            if (clause.contains("Exception:") || clause.contains("NONE") || clause.contains("nothing happens")) {
                found.add(clause.substring(0, clause.length() - 1));
            }
        }
        return found;
    }

    private static boolean isQuoted(List<String> headings, String promise, String words) {
        for (String heading : headings) {
            if (heading.startsWith(promise + ": ")) {
                String quote = plain(heading.substring(promise.length() + 2));
                if (words.contains(quote) || quote.contains(words)) {
                    return true;
                }
            }
        }
        return false;
    }
}
