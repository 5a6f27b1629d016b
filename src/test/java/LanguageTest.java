import java.lang.reflect.Field;
import java.lang.reflect.Method;
import java.lang.reflect.Modifier;
import java.nio.file.Files;
import java.nio.file.Path;
import java.util.ArrayList;
import java.util.Arrays;
import java.util.HashSet;
import java.util.List;
import java.util.Set;
import java.util.TreeSet;
import java.util.regex.Matcher;
import java.util.regex.Pattern;

/** Looks after those rules of LANGUAGE.md that can be seen in the source or in the class itself. */
public final class LanguageTest {
    private static int wrong = 0;

    private static void rule(boolean holds, String what) {
        if (!holds) {
            wrong++;
            System.out.println("against the language: " + what);
        }
    }

    private static final String[] FACE = {
        "int feed(int,int,int,int,int)", "boolean end(int)", "int sea()", "int fault(int)", "int has(int)",
        "int letter(int,int)", "int ship(int,int)", "int saying(int,int,int)", "int cell(int,int,int,int)",
        "int far(int,int,int,int,int)", "int can(int,int,int)", "int reach(int,int,int)", "int may(int,int,int,int)",
        "int judge(int,int)", "int tale(int,int)", "int bars(int)", "int clash(int,int)", "int who(int)",
        "int swap(int,int)", "int kinds(int)", "int lies()", "int met(int,int,int)", "int sighting(int,int)",
        "int strange()", "int doubted()", "int gaps(int,int)", "long chance(int)", "int beyond()",
        "int settles(int,int,int)", "int next(int)", "int off(int)", "int whose()", "int add(int,int,int,int,boolean)",
        "int drop(int,int)", "int spot(int,int,int,int)", "int image()", "int octet(int)", "boolean on()",
        "int status(int)"};

    private static String told(Method m) {
        List<String> types = new ArrayList<>();
        for (Class<?> t : m.getParameterTypes()) {
            types.add(t.getSimpleName());
        }
        return m.getReturnType().getSimpleName() + " " + m.getName() + "(" + String.join(",", types) + ")";
    }

    private static void face() {
        Set<String> open = new TreeSet<>();
        Set<String> names = new HashSet<>();
        for (Method m : ToldTracks.class.getDeclaredMethods()) {
            if (Modifier.isPublic(m.getModifiers())) {
                open.add(told(m));
                names.add(m.getName());
            } else {
                rule(Modifier.isPrivate(m.getModifiers()), "not private: " + told(m));
            }
        }
        rule(open.equals(new TreeSet<>(Arrays.asList(FACE))), "the face is " + open);
        for (Field f : ToldTracks.class.getDeclaredFields()) {
            rule(f.getName().equals("NONE") == Modifier.isPublic(f.getModifiers())
                    && (f.getName().equals("NONE") || Modifier.isPrivate(f.getModifiers())), "field " + f);
        }
        rule(ToldTracks.class.getDeclaredConstructors().length == 1, "constructors");
        rule(ToldTracks.class.getDeclaredClasses().length < 12, "too many classes");
        List<Class<?>> all = new ArrayList<>(Arrays.asList(ToldTracks.class.getDeclaredClasses()));
        all.add(ToldTracks.class);
        for (Class<?> c : all) {
            inside(c, names);
        }
    }

    private static void inside(Class<?> c, Set<String> names) {
        rule(c == ToldTracks.class || Modifier.isStatic(c.getModifiers()), c + " is not static");
        int fields = 0;
        for (Field f : c.getDeclaredFields()) {
            if (Modifier.isStatic(f.getModifiers())) {
                rule(Modifier.isFinal(f.getModifiers()), "static, not final: " + f);
            } else {
                fields++;
            }
        }
        rule(fields <= 20, c + " has " + fields + " fields");
        for (Method m : c.getDeclaredMethods()) {
            rule(m.getParameterCount() <= 7, "too many parameters: " + m);
            rule(c == ToldTracks.class && Modifier.isPublic(m.getModifiers()) || !names.contains(m.getName()),
                    "bears a public name: " + m);
        }
    }

    private static void source() throws java.io.IOException {
        String text = Files.readString(Path.of("src/main/java/ToldTracks.java"));
        String code = text.replaceAll("(?s)/\\*.*?\\*/", "").replaceAll("//[^\n]*", "")
                .replaceAll("\"[^\"\n]*\"", "\"\"");
        String[] never = {"\\bthrow", "\\btry\\b", "\\bcatch\\b", "\\bsynchronized\\b", "\\bassert\\b", "->", "::",
            "Exact\\b", "\\bpackage\\b", "\\bstatic \\{", "@", "\\.equals\\(", "\\bhashCode\\b", "\\btoString\\b",
            "\\bSystem\\.(?!arraycopy)", "\"\" *\\+", "\\+ *\"\"", "\\bdouble\\b", "\\bfloat\\b", "while \\(true\\)",
            "for \\(;;\\)"};
        for (String n : never) {
            Matcher m = Pattern.compile(n).matcher(code);
            rule(!m.find(), "the source has " + n);
        }
        Matcher imports = Pattern.compile("import ([^;]*);").matcher(code);
        while (imports.find()) {
            rule(imports.group(1).equals("java.util.Arrays"), "import " + imports.group(1));
        }
        methodsAreShort(code);
    }

    private static void methodsAreShort(String code) {
        String[] lines = code.split("\n");
        int start = 0;
        String indent = null;
        for (int k = 0; k < lines.length; k++) {
            Matcher head = Pattern.compile("^( {4}| {8})\\S.*\\) \\{$").matcher(lines[k]);
            if (head.find()) {
                start = k;
                indent = head.group(1);
            } else if (indent != null && lines[k].equals(indent + "}")) {
                rule(k - start < 60, "a long method: " + lines[start].trim());
                indent = null;
            }
        }
    }

    public static void main(String[] args) throws java.io.IOException {
        face();
        source();
        System.out.println(wrong == 0 ? "the language is kept" : wrong + " things against the language");
        if (wrong != 0) {
            System.exit(1);
        }
    }
}
