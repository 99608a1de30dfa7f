import java.io.IOException;
import java.nio.file.Files;
import java.nio.file.Path;
import java.util.ArrayList;
import java.util.List;
import java.util.Set;

/**
 * Runs of calls with the answers that are due, written in a file under src/test/runs. A line is one of
 *   "new"                             makes an object;
 *   "tell fund|acts 'text' => 3"      puts a text on the tape and has it read;
 *   "wrong fund|acts 'te^xt'"         the same, but the text is wrong at the byte behind the ^;
 *   "times 5 mark 0 1 => 1"           a call done so often: the latest answer;
 *   "sell 0 5 true => 0"              a call.
 * Each is put to the naive ledger, too, so that what the fuzzing compares with is checked.
 * A call that throws, or only asks, must leave everything that can be seen as it was.
 */
final class Runs {
    private static final Set<String> ACTING = Set.of("call", "sell", "mark", "quarters", "fail", "move", "close", "undo",
            "fund", "acts", "image", "back", "feed", "end");

    final List<String> wrong = new ArrayList<>();
    final List<String> headings = new ArrayList<>();
    int asked;
    private String heading = "";
    private WeirLedger ledger;
    private Caller tested;
    private Caller naive;

    void readAll(Path file) throws IOException {
        for (String line : Files.readAllLines(file)) {
            if (line.startsWith("## ")) {
                heading = line.substring(3);
                headings.add(heading);
            } else if (line.equals("new")) {
                ledger = new WeirLedger();
                tested = new Caller(ledger);
                naive = new Caller(new NaiveLedger());
            } else if (line.startsWith("wrong ")) {
                refused(line);
            } else if (!line.isBlank() && !line.startsWith("#")) {
                int at = line.lastIndexOf(" => ");
                due(line.substring(0, at), line.substring(at + 4));
            }
        }
    }

    private void refused(String line) {
        String text = quoted(line);
        int at = text.indexOf('^');
        String how = line.split(" ")[1];
        due("tell " + how + " '" + text.substring(0, at) + text.substring(at + 1) + "'", "throws.IllegalArgumentException");
        due("fault", "" + at);
    }

    /** What stands between the quotes, \\x09 being the byte 9. */
    private static String quoted(String line) {
        StringBuilder s = new StringBuilder(line.substring(line.indexOf('\'') + 1, line.lastIndexOf('\'')));
        for (int at = s.indexOf("\\x"); at >= 0; at = s.indexOf("\\x")) {
            char sign = (char) Integer.parseInt(s.substring(at + 2, at + 4), 16);
            s.replace(at, at + 4, String.valueOf(sign));
        }
        return s.toString();
    }

    private void due(String words, String answer) {
        if (words.startsWith("tell ")) {
            tested.feedText(quoted(words));
            naive.feedText(quoted(words));
            due(words, words.split(" ")[1], answer, 1);
        } else if (words.startsWith("times ")) {
            String[] parts = words.split(" ", 3);
            due(words, parts[2], answer, Integer.parseInt(parts[1]));
        } else {
            due(words, words, answer, 1);
        }
    }

    private void due(String line, String call, String answer, int times) {
        String got = "";
        String naiveGot = "";
        for (int k = 0; k < times; k++) {
            String before = all(call);
            got = tested.ask(call);
            naiveGot = naive.ask(call);
            asked++;
            if (mustStay(call, got) && !before.equals(all(call))) {
                wrong.add(heading + ": " + line + " changes something");
            }
        }
        if (!got.equals(answer)) {
            wrong.add(heading + ": " + line + " => " + answer + ", answered " + got);
        }
        if (!naiveGot.equals(answer)) {
            wrong.add(heading + ": " + line + " => " + answer + ", answered " + naiveGot + " (naive)");
        }
    }

    private static boolean mustStay(String call, String got) {
        boolean refused = got.startsWith("throws.") || got.equals("false") || call.startsWith("feed ") && got.equals("-1");
        return refused || !ACTING.contains(call.split(" ")[0]);
    }

    /** All that can be seen, but what a text that is read uses up. */
    private String all(String call) {
        StringBuilder s = new StringBuilder();
        for (int k = 0; k < 7; k++) {
            s.append(ledger.count(k)).append(' ').append(ledger.term(k)).append(' ');
        }
        for (int i = 0; i < ledger.count(0); i++) {
            for (int k = 0; k < 6; k++) {
                s.append(ledger.investor(i, k)).append(' ');
            }
        }
        for (int d = -2; d < ledger.count(1); d++) {
            for (int k = 0; k < 4; k++) {
                s.append(ledger.ladder(d, k)).append(' ').append(d < 0 ? ledger.manager(k) : ledger.deal(d, k)).append(' ');
            }
        }
        for (int k = 0; k < ledger.count(3); k++) {
            for (int what = 0; what < 7; what++) {
                s.append(ledger.act(k, what)).append(' ');
            }
        }
        for (int q = 0; q <= ledger.count(2); q++) {
            s.append(ledger.curve(q)).append(' ');
        }
        if (!call.equals("fund") && !call.equals("acts")) {
            s.append(ledger.fault()).append(' ').append(tapeLength());
        }
        return s.toString();
    }

    private int tapeLength() {
        for (int n = 400; n > 0; n--) {
            if (ledger.end(n)) {
                return n;
            }
        }
        return 0;
    }
}
