import java.lang.reflect.Method;
import java.lang.reflect.Modifier;
import java.nio.file.Files;
import java.nio.file.Path;
import java.util.Set;
import java.util.TreeSet;
import java.util.regex.Matcher;
import java.util.regex.Pattern;

/** README.md is held to the class: its examples are run, and its tables must have every call. */
public final class ReadmeTests {
    private static final Pattern EXAMPLE = Pattern.compile("x\\.(\\w+)\\(([^)]*)\\);\\s*// (-?\\d+)(:.*)?");
    private static final Pattern ROW = Pattern.compile("\\| `(\\w+)\\(([^)]*)\\)` \\|.*");

    private static int wrong = 0;

    public static void main(String[] args) throws Exception {
        String[] lines = Files.readString(Path.of("README.md")).split("\n");
        Set<String> face = face();
        Set<String> run = examples(lines);
        due(run.equals(face), "the examples call " + run + ", due is " + face);
        Set<String> told = tables(lines);
        due(told.equals(face), "the tables have " + told + ", due is " + face);
        System.out.println(wrong == 0 ? "ReadmeTests: all as due" : "ReadmeTests: " + wrong + " wrong");
        if (wrong != 0) {
            System.exit(1);
        }
    }

    private static void due(boolean holds, String what) {
        if (!holds) {
            wrong++;
            System.out.println(what);
        }
    }

    private static Set<String> face() {
        Set<String> face = new TreeSet<>();
        for (Method method : EtchBath.class.getDeclaredMethods()) {
            if (Modifier.isPublic(method.getModifiers())) {
                face.add(named(method.getName(), method.getParameterCount()));
            }
        }
        return face;
    }

    private static String named(String name, int parameters) {
        return name + "/" + parameters;
    }

    private static String[] parts(String list) {
        return list.isEmpty() ? new String[0] : list.split(", ");
    }

    private static Set<String> examples(String[] lines) throws Exception {
        Set<String> run = new TreeSet<>();
        EtchBath x = null;
        boolean code = false;
        for (String line : lines) {
            if (line.startsWith("```")) {
                code = line.equals("```java");
            } else if (code && line.equals("EtchBath x = new EtchBath();")) {
                x = new EtchBath();
            } else if (code) {
                Matcher matcher = EXAMPLE.matcher(line);
                boolean reads = matcher.matches() && x != null;
                due(reads, "not an example with its answer: " + line);
                if (reads) {
                    String[] arguments = parts(matcher.group(2));
                    int got = call(x, matcher.group(1), arguments);
                    due(got == Integer.parseInt(matcher.group(3)), line + " answered " + got);
                    run.add(named(matcher.group(1), arguments.length));
                }
            }
        }
        return run;
    }

    private static int call(EtchBath x, String name, String[] arguments) throws Exception {
        Class<?>[] types = new Class<?>[arguments.length];
        Object[] values = new Object[arguments.length];
        for (int i = 0; i < arguments.length; i++) {
            boolean truth = arguments[i].equals("true") || arguments[i].equals("false");
            types[i] = truth ? boolean.class : int.class;
            values[i] = truth ? (Object) Boolean.valueOf(arguments[i]) : (Object) Integer.valueOf(arguments[i]);
        }
        return (Integer) EtchBath.class.getMethod(name, types).invoke(x, values);
    }

    private static Set<String> tables(String[] lines) {
        Set<String> told = new TreeSet<>();
        for (String line : lines) {
            Matcher matcher = ROW.matcher(line);
            if (matcher.matches()) {
                due(told.add(named(matcher.group(1), parts(matcher.group(2)).length)), "told twice: " + line);
            }
        }
        return told;
    }
}
