import java.io.IOException;
import java.nio.file.Files;
import java.nio.file.Path;
import java.util.ArrayList;
import java.util.List;

/**
 * Runs of calls with the answers that are due, written in src/test/runs/promises.txt, a heading for each promise:
 * "new" makes an object, "tell fund|acts 'text'" puts a text on the tape and has it read, all else are calls.
 * The naive ledger must give the same answers, so that what the fuzzing compares with is checked, too.
 */
public final class PromiseTest {
    private static final int PROMISES = 47;

    public static void main(String[] args) throws IOException {
        Path file = Path.of(args[0], "src", "test", "runs", "promises.txt");
        List<String> wrong = new ArrayList<>();
        boolean[] seen = new boolean[PROMISES + 1];
        String promise = "";
        Caller[] callers = {};
        int asked = 0;
        for (String line : Files.readAllLines(file)) {
            if (line.startsWith("## Promise ")) {
                promise = line.substring(3);
                seen[Integer.parseInt(line.substring(11, line.indexOf(':')))] = true;
            } else if (line.equals("new")) {
                callers = new Caller[] {new Caller(new WeirLedger()), new Caller(new NaiveLedger())};
            } else if (!line.isBlank() && !line.startsWith("#")) {
                int at = line.lastIndexOf(" => ");
                String due = line.substring(at + 4);
                for (Caller c : callers) {
                    String got = answer(c, line.substring(0, at));
                    asked++;
                    if (!got.equals(due)) {
                        wrong.add(promise + ": " + line + ", answered " + got + (c == callers[0] ? "" : " (naive)"));
                    }
                }
            }
        }
        for (int k = 1; k <= PROMISES; k++) {
            if (!seen[k]) {
                wrong.add("no run for promise " + k);
            }
        }
        wrong.forEach(System.out::println);
        System.out.println("promises: " + asked + " calls, " + wrong.size() + " wrong");
        System.exit(wrong.isEmpty() ? 0 : 1);
    }

    private static String answer(Caller c, String words) {
        if (!words.startsWith("tell ")) {
            return c.ask(words);
        }
        c.feedText(words.substring(words.indexOf('\'') + 1, words.lastIndexOf('\'')));
        return c.ask(words.split(" ")[1]);
    }
}
