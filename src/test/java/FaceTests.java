import java.lang.reflect.Constructor;
import java.lang.reflect.Field;
import java.lang.reflect.Method;
import java.lang.reflect.Modifier;
import java.nio.file.Files;
import java.nio.file.Path;
import java.util.ArrayList;
import java.util.Collections;
import java.util.List;
import java.util.Set;
import java.util.TreeSet;
import java.util.regex.Matcher;
import java.util.regex.Pattern;

/** The public face, and the rules of LANGUAGE.md that can be told from the file or the class. */
public final class FaceTests {
    private static final String[] FACE = {
        "ground(int,int)", "as(int,int)", "stop(int,int)", "clean(int)", "bath(int,int)", "bathe(int,int)",
        "scrape(int,int)", "about(int,int)", "span(int,int,boolean)", "wish(int,int)", "clear()", "baths()",
        "minute(int)", "work()", "keep(int)", "changed(int,int)", "back(int,int)", "offset(int,int,int)",
        "colour(int)", "steel(int,int)", "pull(int)", "guard(int,int,int)", "edition()", "tell(int)", "check(int)",
        "count(int)", "found(int)"};
    private static final String[] UNWANTED = {
        "\\b(throw|throws|try|catch|synchronized|assert)\\b", "->", "::", "\\bimport\\b", "\\bpackage\\b",
        "\\bstatic\\s*\\{", "Exact\\b", "\\b(float|double)\\b", "\\bprotected\\b", "\\b(hashCode|toString|equals)\\b"};

    private static int wrong = 0;

    public static void main(String[] args) throws Exception {
        methods();
        members();
        text();
        System.out.println(wrong == 0 ? "FaceTests: all as due" : "FaceTests: " + wrong + " wrong");
        if (wrong != 0) {
            System.exit(1);
        }
    }

    private static void due(boolean holds, String what) {
        if (!holds) {
            wrong++;
            System.out.println(what);
        }
    }

    private static String told(Method method) {
        List<String> types = new ArrayList<>();
        for (Class<?> type : method.getParameterTypes()) {
            types.add(type.getName());
        }
        return method.getName() + "(" + String.join(",", types) + ")";
    }

    private static void methods() {
        Set<String> open = new TreeSet<>();
        Set<String> names = new TreeSet<>();
        for (Method method : EtchBath.class.getDeclaredMethods()) {
            if (!Modifier.isPrivate(method.getModifiers())) {
                due(Modifier.isPublic(method.getModifiers()), "neither public nor private: " + method);
                due(!Modifier.isStatic(method.getModifiers()), "static: " + method);
                due(method.getReturnType() == int.class, "answers no int: " + method);
                open.add(told(method));
                names.add(method.getName());
            }
        }
        Set<String> face = new TreeSet<>();
        Collections.addAll(face, FACE);
        due(open.equals(face), "the face is " + open + ", due is " + face);
        for (Class<?> type : allClasses()) {
            for (Method method : type.getDeclaredMethods()) {
                boolean own = type == EtchBath.class && Modifier.isPublic(method.getModifiers());
                due(own || !names.contains(method.getName()), "bears the name of a public one: " + method);
                due(method.getParameterCount() <= 7, "too many parameters: " + method);
            }
        }
    }

    private static List<Class<?>> allClasses() {
        List<Class<?>> all = new ArrayList<>();
        all.add(EtchBath.class);
        Collections.addAll(all, EtchBath.class.getDeclaredClasses());
        return all;
    }

    private static void members() {
        int face = EtchBath.class.getModifiers();
        due(Modifier.isPublic(face) && Modifier.isFinal(face), "the class isn't public and final");
        Constructor<?>[] made = EtchBath.class.getDeclaredConstructors();
        due(made.length == 1 && Modifier.isPublic(made[0].getModifiers()) && made[0].getParameterCount() == 0,
            "the constructor isn't as told");
        due(allClasses().size() <= 12, "too many classes");
        for (Class<?> type : allClasses()) {
            due(type == EtchBath.class || Modifier.isStatic(type.getModifiers()), "not static: " + type);
            int own = 0;
            for (Field field : type.getDeclaredFields()) {
                int is = field.getModifiers();
                due(Modifier.isPrivate(is), "not private: " + field);
                due(!Modifier.isStatic(is) || Modifier.isFinal(is), "static and not final: " + field);
                due(!Modifier.isStatic(is) || field.getType() == int.class, "static and no int: " + field);
                own += Modifier.isStatic(is) ? 0 : 1;
            }
            due(own <= 20, "too many fields: " + type);
        }
    }

    private static void text() throws Exception {
        String text = Files.readString(Path.of("src/main/java/EtchBath.java"));
        String code = text.replaceAll("(?s)/\\*.*?\\*/", "").replaceAll("//[^\n]*", "");
        for (String unwanted : UNWANTED) {
            Matcher matcher = Pattern.compile(unwanted).matcher(code);
            due(!matcher.find(), "the file has what LANGUAGE.md rules out: " + unwanted);
        }
        due(text.chars().allMatch(sign -> sign < 128), "the file has signs above 127");
    }
}
