import java.io.IOException;
import java.lang.reflect.Field;
import java.lang.reflect.Method;
import java.lang.reflect.Modifier;
import java.nio.file.Files;
import java.nio.file.Path;
import java.util.ArrayList;
import java.util.Arrays;
import java.util.List;
import java.util.Set;
import java.util.TreeSet;
import java.util.regex.Matcher;
import java.util.regex.Pattern;

/** The public face, and those rules of ../shared/LANGUAGE.md that can be seen from outside or by a look at the words. */
public final class FaceTests {
    private static final String FACE = "int type(int,int); int wipe(int); int undo(int); int fault(int);"
        + "int player(int,int); int note(int,int); int bag(int); int event(int,int); int back(); int read(int);"
        + "int at(int,int); int heard(int); int takes(int,int); int sum(int); int flat(); int silent(); int greedy();"
        + "int fill(int); int swap(int); int hold(int); int spare(int); int hear(int,int); int forget(); int never();"
        + "int was(int,int); int ask(int); long chance(int,int,int); int years(int,int,int); int sheet(int,int,int);"
        + "int lose(int); int lay(int,int,int,int); int get(int,int,int); int copy(int,int,int,int,int); int write(int);"
        + "int count(int); long digest()";

    public static void main(String[] args) throws IOException {
        Class<?> c = BreathBand.class;
        Due.due("public and final", 1, Modifier.isPublic(c.getModifiers()) && Modifier.isFinal(c.getModifiers()) ? 1 : 0);
        Due.due("one constructor", 1, c.getDeclaredConstructors().length);
        Due.due("public constructors", 1, c.getConstructors().length);
        methods(c);
        fields(c);
        for (Class<?> inner : c.getDeclaredClasses()) {
            innerClass(inner);
        }
        Due.due("at most some twelve classes", 1, c.getDeclaredClasses().length < 12 ? 1 : 0);
        words();
        shape();
        Due.end();
    }

    private static void methods(Class<?> c) {
        Set<String> due = new TreeSet<>();
        for (String one : FACE.split(";")) {
            due.add(one.trim());
        }
        Set<String> got = new TreeSet<>();
        for (Method m : c.getDeclaredMethods()) {
            if (Modifier.isPrivate(m.getModifiers())) {
                Due.due("no public name: " + m, 0, isPublicName(m.getName()) ? 1 : 0);
                continue;
            }
            Due.due("public, not static: " + m, Modifier.PUBLIC, m.getModifiers());
            List<String> parameters = new ArrayList<>();
            for (Class<?> p : m.getParameterTypes()) {
                parameters.add(p.getName());
            }
            got.add(m.getReturnType().getName() + " " + m.getName() + "(" + String.join(",", parameters) + ")");
        }
        Due.dueText("the face", due.toString(), got.toString());
    }

    private static boolean isPublicName(String name) {
        return Pattern.compile(" " + name + "\\(").matcher(" " + FACE).find();
    }

    private static void fields(Class<?> c) {
        List<String> seen = new ArrayList<>();
        int own = 0;
        for (Field f : c.getDeclaredFields()) {
            staticsAreFinal(f);
            own += Modifier.isStatic(f.getModifiers()) ? 0 : 1;
            if (!Modifier.isPrivate(f.getModifiers())) {
                Due.due("a constant: " + f, Modifier.PUBLIC | Modifier.STATIC | Modifier.FINAL, f.getModifiers());
                seen.add(f.getName());
            }
        }
        Due.due("some twenty fields", 1, own <= 20 ? 1 : 0);
        seen.sort(null);
        Due.dueText("public constants", Arrays.asList("BAD", "FULL", "NONE", "NOT").toString(), seen.toString());
    }

    private static void innerClass(Class<?> inner) {
        Due.due("static: " + inner, 1, Modifier.isStatic(inner.getModifiers()) ? 1 : 0);
        Due.due("not public: " + inner, 0, inner.getModifiers() & (Modifier.PUBLIC | Modifier.PROTECTED));
        int fields = 0;
        for (Field f : inner.getDeclaredFields()) {
            staticsAreFinal(f);
            fields += Modifier.isStatic(f.getModifiers()) ? 0 : 1;
        }
        Due.due("some twenty fields: " + inner, 1, fields <= 20 ? 1 : 0);
        for (Method m : inner.getDeclaredMethods()) {
            Due.due("no public name: " + m, 0, isPublicName(m.getName()) ? 1 : 0);
            Due.due("at most seven parameters: " + m, 1, m.getParameterCount() <= 7 ? 1 : 0);
        }
    }

    private static void staticsAreFinal(Field f) {
        int mods = f.getModifiers();
        Due.due("final: " + f, 1, !Modifier.isStatic(mods) || Modifier.isFinal(mods) ? 1 : 0);
    }

    private static String source() throws IOException {
        return Files.readString(Path.of("src/main/java/BreathBand.java"));
    }

    /** Rules 8, 11 and 12: no recursion, short methods, few parameters, calls eight deep, no call that makes an object. */
    private static void shape() throws IOException {
        Shape shape = new Shape(source());
        Due.dueText("methods of one name", "[]", shape.namedTwice().toString());
        for (String one : FACE.split(";")) {
            String name = one.replaceAll(".* (\\w+)\\(.*", "$1");
            Due.due("seen by a look: " + name, 1, shape.methods().contains(name) ? 1 : 0);
        }
        for (String method : shape.methods()) {
            Due.due("at most sixty lines: " + method, 1, shape.lines(method) <= 60 ? 1 : 0);
            Due.due("at most seven parameters: " + method, 1, shape.parametersOf(method) <= 7 ? 1 : 0);
            Due.due("calls at most eight deep: " + method, 1, shape.depth(method) <= 8 ? 1 : 0);
            boolean constructor = Character.isUpperCase(method.charAt(0));
            Due.due("makes no object: " + method, 1, constructor || !shape.makesObjects(method) ? 1 : 0);
        }
    }

    private static void words() throws IOException {
        String source = source();
        Due.due("signs 1 to 127 alone", 0, source.chars().filter(ch -> ch < 1 || ch > 127).count());
        String code = source.replaceAll("(?s)/\\*.*?\\*/", " ").replaceAll("//[^\n]*", " ");
        String[] never = {"\\bthrow\\b", "\\btry\\b", "\\bcatch\\b", "\\bsynchronized\\b", "\\bassert\\b", "->", "::",
            "\\bpackage\\b", "\\bSystem\\.(?!arraycopy)", "\\bInteger\\.[A-Z]", "\\bLong\\.[A-Z]", "\\w*Exact\\b",
            "\\bhashCode\\b", "\\btoString\\b", "\\bRandom\\b", "\\bThread\\b", "static\\s*\\{"};
        for (String word : never) {
            Due.due("not in the program: " + word, 0, Pattern.compile(word).matcher(code).find() ? 1 : 0);
        }
        Matcher imports = Pattern.compile("import ([^;]*);").matcher(code);
        while (imports.find()) {
            Due.dueText("import", "java.util.Arrays", imports.group(1));
        }
    }
}
