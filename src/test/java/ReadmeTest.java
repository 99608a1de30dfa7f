import java.io.IOException;
import java.lang.reflect.Method;
import java.lang.reflect.Modifier;
import java.nio.file.Files;
import java.nio.file.Path;
import java.util.ArrayList;
import java.util.List;
import java.util.regex.Matcher;
import java.util.regex.Pattern;

/** README.md tells the truth: its example answers as written behind each call, and its table names every method. */
public final class ReadmeTest {
    private static final Pattern TOLD = Pattern.compile("^tell\\(x, \"(.*)\"\\);$");
    private static final Pattern CALLED = Pattern.compile("^x\\.(\\w+)\\((.*)\\);(?: +// ([-\\w.]*\\w).*)?$");

    public static void main(String[] args) throws IOException {
        List<String> wrong = new ArrayList<>();
        List<String> lines = Files.readAllLines(Path.of(args[0], "README.md"));
        Caller ledger = new Caller(new WeirLedger());
        int asked = 0;
        for (String line : lines) {
            Matcher told = TOLD.matcher(line);
            Matcher called = CALLED.matcher(line);
            if (told.matches()) {
                ledger.feedText(told.group(1));
            } else if (called.matches()) {
                String due = called.group(3) == null ? "" : called.group(3);
                String got = ledger.ask(called.group(1) + " " + called.group(2).replace(",", ""));
                asked++;
                if (!got.equals(due)) {
                    wrong.add(line + " answers " + got);
                }
            }
        }
        String table = String.join("\n", lines.stream().filter(l -> l.startsWith("|")).toList());
        for (Method m : WeirLedger.class.getDeclaredMethods()) {
            if (Modifier.isPublic(m.getModifiers()) && !table.contains("`" + m.getName() + "`")) {
                wrong.add("the table has no " + m.getName());
            }
        }
        if (asked < 10) {
            wrong.add("only " + asked + " calls were found");
        }
        wrong.forEach(System.out::println);
        System.out.println("readme: " + asked + " calls, " + wrong.size() + " wrong");
        System.exit(wrong.isEmpty() ? 0 : 1);
    }
}
