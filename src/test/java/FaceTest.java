import java.lang.reflect.Constructor;
import java.lang.reflect.Field;
import java.lang.reflect.Method;
import java.lang.reflect.Modifier;
import java.nio.file.Files;
import java.nio.file.Path;
import java.util.Arrays;
import java.util.Set;
import java.util.TreeSet;
import java.util.regex.Matcher;
import java.util.regex.Pattern;

/** The face is the document's and no more; the source keeps to those rules of LANGUAGE.md that can be looked for. */
public final class FaceTest {
    private static final Checks CHECKS = new Checks();

    private static final String FACE = "int feed(int,int,int,int,int);int back(int);int read();int place();int person(int,int);"
        + "int screw(int);int suit(int,int);int tells(int,int,int);int put(int,int);boolean bread(int,int);boolean plate(int);"
        + "int wash();int days(int);boolean undo();int calm(int);int rich(int,int,int,int);int alike(int,int,int);int best(int);"
        + "int gain(int,int,int);int plates(int,int,int);int crumbs(int,int,int,int);int poorest(int);int foes(int);int peace(int);"
        + "int paired(int);int most(int,int);int likest(int);int fair(int);int ends();int bill(int);int then(int,int,int);"
        + "int foesIn(int,int);int turnsIn(int);int year(int,int,int,int);int tell(int,int,int,boolean);int forget();int two(int,int);"
        + "int ask(int,int);boolean hold(int);boolean restore(int);int count(int)";

    public static void main(String[] args) throws Exception {
        face();
        source(Files.readString(Path.of("src/main/java/MincedCases.java")));
        CHECKS.end();
    }

    private static String signature(Method m) {
        String parameters = String.join(",", Arrays.stream(m.getParameterTypes()).map(Class::getName).toList());
        return m.getReturnType().getName() + " " + m.getName() + "(" + parameters + ")";
    }

    private static void face() {
        Set<String> due = new TreeSet<>(Arrays.asList(FACE.split(";")));
        Set<String> open = new TreeSet<>();
        Set<String> publicNames = new TreeSet<>();
        for (Method m : MincedCases.class.getDeclaredMethods()) {
            if (!Modifier.isPrivate(m.getModifiers())) {
                open.add((Modifier.isPublic(m.getModifiers()) ? "" : "not public ") + signature(m));
                publicNames.add(m.getName());
            }
        }
        CHECKS.due("the face " + open + " against " + due, open.equals(due), true);
        CHECKS.due("public and final", MincedCases.class.getModifiers(), Modifier.PUBLIC | Modifier.FINAL);
        CHECKS.due("NONE", MincedCases.NONE, -1);
        for (Field f : MincedCases.class.getDeclaredFields()) {
            CHECKS.due("field " + f.getName(), Modifier.isPrivate(f.getModifiers()) || f.getName().equals("NONE"), true);
        }
        Constructor<?>[] constructors = MincedCases.class.getDeclaredConstructors();
        CHECKS.due("constructors", constructors.length, 1);
        CHECKS.due("its parameters", constructors[0].getParameterCount(), 0);
        CHECKS.due("classes", MincedCases.class.getDeclaredClasses().length <= 12, true);
        for (Class<?> inside : MincedCases.class.getDeclaredClasses()) {
            CHECKS.due(inside + " is static", Modifier.isStatic(inside.getModifiers()), true);
            long fields = Arrays.stream(inside.getDeclaredFields()).filter(f -> !Modifier.isStatic(f.getModifiers())).count();
            CHECKS.due(inside + " has few fields", fields <= 20, true);
            for (Method m : inside.getDeclaredMethods()) {
                CHECKS.due(inside + "." + m.getName() + " bears no public name", publicNames.contains(m.getName()), false);
                CHECKS.due(inside + "." + m.getName() + " takes at most seven", m.getParameterCount() <= 7, true);
            }
        }
    }

    private static void without(String code, String pattern) {
        Matcher m = Pattern.compile(pattern).matcher(code);
        CHECKS.due("the source has " + pattern + (m.find() ? " as in: " + m.group() : ""), m.reset().find(), false);
    }

    private static void source(String whole) {
        String code = whole.replaceAll("(?s)/\\*.*?\\*/", "").replaceAll("//.*", "");
        without(code, "\\b(throw|throws|try|catch|finally|synchronized|assert|import|package|volatile|native|instanceof)\\b");
        without(code, "->|::");
        without(code, "\\b(?:Thread|Random|File|System\\.(?!arraycopy)|Runtime|Object|Class)\\b");
        without(code, "\"\\s*\\+|\\+\\s*\"");
        without(code, "Exact\\b");
        without(code, "\\b(equals|hashCode|toString)\\(");
        without(code, "static\\s*\\{");
        without(code, "(?m)^\\s*(private |public )?static (?!final |int |boolean |long |void )");
        without(code, "for \\(;;\\)|while \\(true\\)");
        String[] lines = whole.split("\n");
        int from = 0;
        for (int i = 0; i < lines.length; i++) {
            if (lines[i].matches(" {4,8}(public|private|static|void|int|boolean|long|[A-Z]\\w*\\().*\\{")) {
                from = i;
            }
            if (lines[i].matches(" {4}\\}| {8}\\}")) {
                boolean ofClass = lines[from].contains(" class ");
                CHECKS.due("lines of the method at " + (from + 1), ofClass || i - from <= 60, true);
            }
        }
    }
}
