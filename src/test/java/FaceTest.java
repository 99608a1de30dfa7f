import java.io.IOException;
import java.lang.reflect.Constructor;
import java.lang.reflect.Field;
import java.lang.reflect.Method;
import java.lang.reflect.Modifier;
import java.nio.file.Files;
import java.nio.file.Path;
import java.util.ArrayList;
import java.util.Arrays;
import java.util.List;
import java.util.TreeSet;
import java.util.regex.Matcher;
import java.util.regex.Pattern;
import java.util.stream.Collectors;

/** The class has the document's face and no other; its source keeps to what can be checked of LANGUAGE.md. */
public final class FaceTest {
    private static final List<String> WRONG = new ArrayList<>();

    public static void main(String[] args) throws IOException {
        String document = Files.readString(Path.of(args[0], "..", "shared", "DOC.md"));
        String source = Files.readString(Path.of(args[0], "src", "main", "java", "WeirLedger.java"));
        face(document);
        names();
        words(source);
        lengths(source);
        WRONG.forEach(System.out::println);
        System.out.println("face: " + WRONG.size() + " wrong");
        System.exit(WRONG.isEmpty() ? 0 : 1);
    }

    private static void face(String document) {
        TreeSet<String> due = new TreeSet<>();
        Matcher m = Pattern.compile("(?m)^    public (?!static)(\\w+) (\\w+)\\((.*)\\)(?: throws (.*))?;$").matcher(document);
        while (m.find()) {
            String types = Arrays.stream(m.group(3).split(", ")).map(s -> s.split(" ")[0]).collect(Collectors.joining(","));
            due.add(m.group(1) + " " + m.group(2) + "(" + types + ") " + (m.group(4) == null ? "" : m.group(4)));
        }
        TreeSet<String> there = new TreeSet<>();
        for (Method x : WeirLedger.class.getDeclaredMethods()) {
            if (!Modifier.isPrivate(x.getModifiers())) {
                there.add(x.getReturnType() + " " + x.getName() + "("
                        + Arrays.stream(x.getParameterTypes()).map(Class::getSimpleName).collect(Collectors.joining(",")) + ") "
                        + Arrays.stream(x.getExceptionTypes()).map(Class::getSimpleName).collect(Collectors.joining(", ")));
            }
        }
        if (due.size() != 46 || !due.equals(there)) {
            WRONG.add("the face is " + there + ", due is " + due);
        }
        for (Field f : WeirLedger.class.getDeclaredFields()) {
            boolean none = f.getName().equals("NONE");
            if (Modifier.isPublic(f.getModifiers()) != none || !none && !Modifier.isPrivate(f.getModifiers())) {
                WRONG.add("the field " + f);
            }
        }
        Constructor<?>[] constructors = WeirLedger.class.getDeclaredConstructors();
        if (constructors.length != 1 || constructors[0].getParameterCount() != 0 || WeirLedger.NONE != -1
                || !Modifier.isFinal(WeirLedger.class.getModifiers())) {
            WRONG.add("the constructor, the constant or the class");
        }
    }

    /** No other method bears the name of one of the face; few parameters, few fields, few classes. */
    private static void names() {
        TreeSet<String> face = new TreeSet<>();
        for (Method x : WeirLedger.class.getDeclaredMethods()) {
            if (Modifier.isPublic(x.getModifiers())) {
                face.add(x.getName());
            }
        }
        List<Class<?>> classes = new ArrayList<>(List.of(WeirLedger.class.getDeclaredClasses()));
        classes.add(WeirLedger.class);
        if (classes.size() > 12) {
            WRONG.add(classes.size() + " classes");
        }
        for (Class<?> c : classes) {
            long fields = Arrays.stream(c.getDeclaredFields()).filter(f -> !Modifier.isStatic(f.getModifiers())).count();
            if (fields > 20) {
                WRONG.add(c + " has " + fields + " fields");
            }
            for (Method x : c.getDeclaredMethods()) {
                if (!Modifier.isPublic(x.getModifiers()) && face.contains(x.getName())) {
                    WRONG.add(c + " has a " + x.getName() + " of its own");
                }
                if (x.getParameterCount() > 7) {
                    WRONG.add(x + " has too many parameters");
                }
            }
        }
    }

    private static void words(String source) {
        String code = source.replaceAll("(?s)/\\*.*?\\*/", "").replaceAll("//[^\n]*", "");
        String[] never = {"->", "::", "\\btry\\b", "\\bcatch\\s*\\(", "\\bfinally\\b", "synchronized", "\\bassert\\b", "\\bHash", "\\bMap\\b",
            "System\\.(?!arraycopy)", "Math\\.(?!min\\b|max\\b)", "Exact\\b", "\\bString\\.", "toString", "hashCode", "\\bvar\\b",
            "Object\\b", "\\bnew (?!int\\[|long\\[|Books|Text|Fund|Journal|Trace|State|Register|Orders|\\w*Exception)"};
        for (String n : never) {
            Matcher m = Pattern.compile(n).matcher(code);
            if (m.find()) {
                WRONG.add("the source has " + m.group() + " at sign " + m.start());
            }
        }
        if (source.chars().anyMatch(c -> c > 126) || source.contains("\npackage ")) {
            WRONG.add("a strange sign, or a package");
        }
    }

    private static void lengths(String source) {
        String[] lines = source.split("\n");
        int begin = -1;
        String open = "";
        for (int k = 0; k < lines.length; k++) {
            Matcher m = Pattern.compile("^( {4,8})[\\w\\[\\]<> ]+\\(.*").matcher(lines[k]);
            if (begin < 0 && m.matches() && !lines[k].endsWith(";")) {
                begin = k;
                open = m.group(1);
            } else if (begin >= 0 && lines[k].equals(open + "}")) {
                if (k - begin + 1 > 60) {
                    WRONG.add("a method of " + (k - begin + 1) + " lines: " + lines[begin]);
                }
                begin = -1;
            }
        }
    }
}
