import java.io.File;
import java.io.IOException;
import java.io.PrintWriter;
import java.io.StringWriter;
import java.lang.reflect.Field;
import java.lang.reflect.Modifier;
import java.util.ArrayList;
import java.util.Arrays;
import java.util.LinkedHashSet;
import java.util.List;
import java.util.Map;
import java.util.Optional;
import java.util.Set;
import java.util.TreeMap;
import java.util.regex.Matcher;
import java.util.regex.Pattern;
import java.util.spi.ToolProvider;

/** What the compiled class shows of LANGUAGE.md: what it calls of the library, how deep calls go, where it throws, what is static. */
public final class LanguageTest {
    private static final int DEEPEST = 8;
    private static final Pattern ALLOWED = Pattern.compile("java/lang/Object\\.<init>|java/lang/String\\.(length|charAt|equals)"
            + "|java/lang/System\\.arraycopy|java/util/Arrays\\.(fill|copyOf|copyOfRange)|java/lang/Math\\.(min|max|abs|floorDiv|floorMod)"
            + "|java/lang/Integer\\.(bitCount|compare)|java/lang/\\w+Exception\\.<init>|java/util/NoSuchElementException\\.<init>");
    private static final Pattern HEAD = Pattern.compile("^  [\\w.$\\[\\] ]*?([\\w.$]+)\\(.*\\).*;$");
    private static final Pattern INVOKE = Pattern.compile("^ +\\d+: invoke\\w+ .*// (?:Interface)?Method (?:([\\w/$]+)\\.)?\"?([\\w<>]+)\"?:.*$");
    private static final Pattern NEVER = Pattern.compile("^ +\\d+: (invokedynamic|checkcast|instanceof|monitorenter|multianewarray)\\b.*$");
    private static final Set<Class<?>> STATIC_TYPES = Set.of(int.class, long.class, boolean.class, char.class, String.class,
            int[].class, long[].class, char[].class, byte[].class);

    private static final List<String> WRONG = new ArrayList<>();
    private static final Map<String, Set<String>> CALLS = new TreeMap<>();
    private static String deepest = "";
    private static int depth;

    public static void main(String[] args) throws IOException, ClassNotFoundException {
        Optional<ToolProvider> javap = ToolProvider.findFirst("javap");
        if (javap.isEmpty()) {
            System.out.println("language: this machine cannot show compiled classes, nothing was looked at");
            return;
        }
        for (File file : classFiles()) {
            String name = file.getName().replace(".class", "");
            StringWriter shown = new StringWriter();
            if (javap.get().run(new PrintWriter(shown), new PrintWriter(shown), "-c", "-p", file.getPath()) != 0) {
                WRONG.add("javap refused " + file + ": " + shown);
            }
            read(name, shown.toString());
            statics(Class.forName(name));
        }
        for (String method : CALLS.keySet()) {
            follow(method, new LinkedHashSet<>());
        }
        if (CALLS.size() < 47) {
            WRONG.add("only " + CALLS.size() + " methods were found");
        }
        if (depth > DEEPEST) {
            WRONG.add("calls go " + depth + " deep: " + deepest);
        }
        WRONG.forEach(System.out::println);
        System.out.println("language: " + CALLS.size() + " methods, calls go " + depth + " deep, " + WRONG.size() + " wrong");
        System.exit(WRONG.isEmpty() ? 0 : 1);
    }

    private static File[] classFiles() {
        File[] files = new File(System.getProperty("java.class.path")).listFiles(
                (directory, name) -> name.matches("WeirLedger(\\$.*)?\\.class"));
        if (files == null || files.length == 0) {
            WRONG.add("no class WeirLedger is there");
            return new File[0];
        }
        Arrays.sort(files);
        return files;
    }

    private static void read(String owner, String shown) {
        String method = "";
        for (String line : shown.split("\n")) {
            Matcher head = HEAD.matcher(line);
            if (head.matches()) {
                boolean constructor = head.group(1).equals(owner);
                method = owner + "." + (constructor ? "<init>" : head.group(1));
                if (CALLS.put(method, new LinkedHashSet<>()) != null && !constructor) {
                    WRONG.add("two methods are named " + method);
                }
            }
            if (line.equals("  static {};")) {
                method = owner + ".<clinit>";
                CALLS.put(method, new LinkedHashSet<>());
            }
            judge(owner, method, line);
        }
    }

    private static void judge(String owner, String method, String line) {
        Matcher invoke = INVOKE.matcher(line);
        if (invoke.matches()) {
            String callee = (invoke.group(1) == null ? owner : invoke.group(1)) + "." + invoke.group(2);
            CALLS.get(method).add(callee);
            if (!callee.startsWith("WeirLedger") && !ALLOWED.matcher(callee).matches()) {
                WRONG.add(method + " calls " + callee);
            }
        } else if (line.matches("^ +\\d+: invoke\\w+ .*")) {
            WRONG.add(method + " has a call that was not understood:" + line);
        }
        if (NEVER.matcher(line).matches() || line.contains("Exception table:")) {
            WRONG.add(method + " has" + line);
        }
        if (line.matches("^ +\\d+: athrow") && method.endsWith("init>")) {
            WRONG.add(method + " throws");
        }
    }

    /** The longest way down from a method; what a method does by calling itself is no deeper. */
    private static void follow(String method, LinkedHashSet<String> above) {
        above.add(method);
        if (above.size() > depth) {
            depth = above.size();
            deepest = String.join(" > ", above);
        }
        for (String callee : CALLS.getOrDefault(method, Set.of())) {
            if (!above.contains(callee)) {
                follow(callee, above);
            } else if (!callee.equals(method)) {
                WRONG.add(callee + " comes back to itself by " + method);
            }
        }
        above.remove(method);
    }

    private static void statics(Class<?> c) {
        for (Field f : c.getDeclaredFields()) {
            if (Modifier.isStatic(f.getModifiers()) && (!Modifier.isFinal(f.getModifiers()) || !STATIC_TYPES.contains(f.getType()))) {
                WRONG.add("the static field " + f);
            }
        }
    }
}
