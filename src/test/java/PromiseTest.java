import java.io.IOException;
import java.nio.file.Path;

/** The runs of src/test/runs/promises.txt, which has a heading for each promise. */
public final class PromiseTest {
    private static final int PROMISES = 47;

    public static void main(String[] args) throws IOException {
        Runs runs = new Runs();
        runs.readAll(Path.of(args[0], "src", "test", "runs", "promises.txt"));
        for (int k = 1; k <= PROMISES; k++) {
            String begin = "Promise " + k + ":";
            if (runs.headings.stream().noneMatch(h -> h.startsWith(begin))) {
                runs.wrong.add("no run for promise " + k);
            }
        }
        runs.wrong.forEach(System.out::println);
        System.out.println("promises: " + runs.asked + " calls, " + runs.wrong.size() + " wrong");
        System.exit(runs.wrong.isEmpty() ? 0 : 1);
    }
}
