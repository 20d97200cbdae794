import java.io.IOException;
import java.lang.reflect.Method;
import java.nio.file.Files;
import java.nio.file.Path;
import java.util.HashMap;
import java.util.Map;

/**
 * Runs written down under src/test/runs, with the answers of a second model (NOTES.md tells how far that bears).
 * A line is 'new' (the next object), 'text FAULT PLACE ..' (a text that is fed and read; %xx is a byte), or a call's
 * name, its arguments and its answer (a boolean is 1 or 0).
 */
public final class RunsTest {
    private static final Checks CHECKS = new Checks();
    private static final Path RUNS = Path.of("src/test/runs/second-model.txt");
    private static final Map<String, Method> CALLS = new HashMap<>();

    public static void main(String[] args) throws Exception {
        for (Method method : MincedCases.class.getMethods()) {
            if (method.getDeclaringClass() == MincedCases.class) {
                CALLS.put(method.getName(), method);
            }
        }
        runAll();
        CHECKS.end();
    }

    private static void runAll() throws IOException, ReflectiveOperationException {
        MincedCases x = new MincedCases();
        int number = 0;
        for (String line : Files.readAllLines(RUNS)) {
            number++;
            if (line.equals("new")) {
                x = new MincedCases();
            } else if (line.startsWith("text ")) {
                readText(x, number, line.split(" ", 4));
            } else {
                call(x, number, line.split(" "));
            }
        }
    }

    private static void readText(MincedCases x, int number, String[] line) {
        Checks.feed(x, plain(line[3]));
        CHECKS.due("line " + number + ", read() of " + line[3], x.read(), Integer.parseInt(line[1]));
        CHECKS.due("line " + number + ", place() of " + line[3], x.place(), Integer.parseInt(line[2]));
    }

    private static String plain(String text) {
        StringBuilder plain = new StringBuilder();
        for (int at = 0; at < text.length(); at++) {
            if (text.charAt(at) == '%') {
                plain.append((char) Integer.parseInt(text.substring(at + 1, at + 3), 16));
                at += 2;
            } else {
                plain.append(text.charAt(at));
            }
        }
        return plain.toString();
    }

    private static void call(MincedCases x, int number, String[] line) throws ReflectiveOperationException {
        Method method = CALLS.get(line[0]);
        Class<?>[] types = method.getParameterTypes();
        Object[] arguments = new Object[types.length];
        for (int i = 0; i < types.length; i++) {
            int argument = Integer.parseInt(line[i + 1]);
            arguments[i] = types[i] == boolean.class ? (Object) (argument != 0) : (Object) argument;
        }
        Object got = method.invoke(x, arguments);
        int answer = got instanceof Boolean b ? (b ? 1 : 0) : (Integer) got;
        CHECKS.due("line " + number + ", " + String.join(" ", line), answer, Integer.parseInt(line[line.length - 1]));
    }
}
