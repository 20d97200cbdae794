import java.io.ByteArrayOutputStream;
import java.io.IOException;
import java.io.OutputStream;
import java.io.PrintStream;
import java.net.URI;
import java.nio.file.Files;
import java.nio.file.Path;
import java.util.ArrayList;
import java.util.HashMap;
import java.util.List;
import java.util.Map;
import java.util.Set;
import java.util.TreeMap;
import java.util.TreeSet;
import java.util.concurrent.ExecutorService;
import java.util.concurrent.Executors;
import java.util.concurrent.TimeUnit;
import java.util.regex.Matcher;
import java.util.regex.Pattern;
import javax.tools.FileObject;
import javax.tools.ForwardingJavaFileManager;
import javax.tools.JavaCompiler;
import javax.tools.JavaFileManager;
import javax.tools.JavaFileObject;
import javax.tools.SimpleJavaFileObject;
import javax.tools.StandardJavaFileManager;
import javax.tools.ToolProvider;

/**
 * Breaks the class in one small place after the other and looks whether an edge fails; by hand, not by .ci/run,
 * as it takes minutes: 'java -cp build Mutants build'. It prints the mutants that no edge tells from the class,
 * and the edges that told none.
 */
public final class Mutants {
    private static final Path SOURCE = Path.of("src/main/java/MincedCases.java");
    private static final String[] TESTS = {"Edges", "EdgesTest", "TextEdges", "TownEdges", "WouldBeEdges", "ToldEdges", "Checks"};
    private static final long MOST_MILLIS = 60_000;
    private static final String[][] SIGNS = {{" < ", " <= "}, {" <= ", " < "}, {" > ", " >= "}, {" >= ", " > "}, {" == ", " != "},
        {" != ", " == "}, {" && ", " || "}, {" || ", " && "}, {" + ", " - "}, {" - ", " + "}, {" * ", " + "}, {" / ", " * "},
        {" % ", " / "}, {" >>> ", " >> "}, {" ^ ", " | "}, {" += ", " -= "}, {" |= ", " = "}, {"true", "false"}, {"false", "true"},
        {"!", ""}, {"Math.min", "Math.max"}, {"Math.max", "Math.min"}, {" one", " other"}, {" other", " one"},
        {"person,", "other,"}, {"NOT_SO", "NONE"}, {"NONE", "NOT_SO"}};

    private record Mutant(int from, int to, String text, String told) { }

    private static final Map<String, byte[]> TEST_CLASSES = new HashMap<>();
    private static final Map<String, Set<String>> FAILED = new TreeMap<>();

    public static void main(String[] args) throws Exception {
        Path build = Path.of(args[0]);
        try (var files = Files.list(build)) {
            for (Path file : files.toList()) {
                String name = file.getFileName().toString().replace(".class", "");
                for (String test : TESTS) {
                    if (name.equals(test) || name.startsWith(test + "$")) {
                        TEST_CLASSES.put(name, Files.readAllBytes(file));
                    }
                }
            }
        }
        String source = Files.readString(SOURCE);
        List<Mutant> mutants = mutants(source);
        PrintStream out = System.out;
        System.setOut(new PrintStream(OutputStream.nullOutputStream()));
        ExecutorService pool = Executors.newFixedThreadPool(Runtime.getRuntime().availableProcessors());
        for (Mutant m : mutants) {
            pool.submit(() -> look(m, source));
        }
        pool.shutdown();
        pool.awaitTermination(10, TimeUnit.HOURS);
        tell(out, mutants);
    }

    // ---- which mutants there are ----

    private static List<Mutant> mutants(String source) {
        List<Mutant> mutants = new ArrayList<>();
        int start = 0;
        int number = 0;
        for (String line : source.split("\n", -1)) {
            number++;
            String bare = line.trim();
            if (!bare.startsWith("/**") && !bare.startsWith("//") && !bare.startsWith("*")) {
                addSigns(mutants, line, start, number);
                addNumbers(mutants, line, start, number);
                addDeletion(mutants, line, start, number);
            }
            start += line.length() + 1;
        }
        return mutants;
    }

    private static void addSigns(List<Mutant> mutants, String line, int start, int number) {
        for (String[] sign : SIGNS) {
            for (int at = line.indexOf(sign[0]); at >= 0; at = line.indexOf(sign[0], at + 1)) {
                add(mutants, line, start, number, at, at + sign[0].length(), sign[1]);
            }
        }
    }

    private static void addNumbers(List<Mutant> mutants, String line, int start, int number) {
        Matcher m = Pattern.compile("(?<![\\w\"])\\d+(?![\\w\"])").matcher(line);
        while (m.find()) {
            long value = Long.parseLong(m.group());
            add(mutants, line, start, number, m.start(), m.end(), Long.toString(value + 1));
            add(mutants, line, start, number, m.start(), m.end(), value == 0 ? "(-1)" : Long.toString(value - 1));
        }
    }

    private static void addDeletion(List<Mutant> mutants, String line, int start, int number) {
        String bare = line.trim();
        if (bare.matches("[\\w.]+(\\[.*\\])?( (=|\\+=|-=|\\|=|&=) .*|\\(.*\\)|\\+\\+|--);") || bare.equals("break;")) {
            int at = line.indexOf(bare);
            add(mutants, line, start, number, at, line.length(), ";");
        }
        if (bare.matches("return [^;]*;") && !bare.contains("new ")) {
            int at = line.indexOf(bare);
            add(mutants, line, start, number, at + 7, line.length() - 1, "0");
            add(mutants, line, start, number, at + 7, line.length() - 1, "true");
            add(mutants, line, start, number, at + 7, line.length() - 1, "false");
        }
        if (bare.matches("if \\(.*\\) \\{")) {
            int at = line.indexOf("if (") + 4;
            add(mutants, line, start, number, at, line.length() - 3, "true");
            add(mutants, line, start, number, at, line.length() - 3, "false");
        }
    }

    private static void add(List<Mutant> mutants, String line, int start, int number, int from, int to, String text) {
        String changed = line.substring(0, from) + text + line.substring(to);
        if (!changed.equals(line)) {
            mutants.add(new Mutant(start + from, start + to, text, number + ": " + line.trim() + "  ==>  " + changed.trim()));
        }
    }

    // ---- how one is looked at ----

    private static void look(Mutant m, String source) {
        String changed = source.substring(0, m.from()) + m.text() + source.substring(m.to());
        Map<String, byte[]> classes = compiled(changed);
        Set<String> failed = new TreeSet<>();
        if (classes == null) {
            failed.add("does not compile");
        } else {
            lookFor(classes, failed);
        }
        synchronized (FAILED) {
            FAILED.put(m.told(), failed);
        }
    }

    @SuppressWarnings({"deprecation", "removal"})
    private static void lookFor(Map<String, byte[]> classes, Set<String> failed) {
        Thread looking = new Thread(() -> {
            try {
                Class<?> test = new Loader(classes).loadClass("EdgesTest");
                var look = test.getDeclaredMethod("look", Set.class);
                look.setAccessible(true);
                Object edges = look.invoke(null, Set.of());
                var found = edges.getClass().getDeclaredMethod("failed");
                found.setAccessible(true);
                for (Object id : (Set<?>) found.invoke(edges)) {
                    failed.add((String) id);
                }
            } catch (ReflectiveOperationException | LinkageError broken) {
                failed.add("broken");
            }
        });
        looking.start();
        try {
            looking.join(MOST_MILLIS);
        } catch (InterruptedException stopped) {
            failed.add("stopped");
        }
        if (looking.isAlive()) {
            looking.stop();
            failed.add("does not end");
        }
    }

    private static final class Loader extends ClassLoader {
        private final Map<String, byte[]> classes;

        Loader(Map<String, byte[]> classes) {
            super(ClassLoader.getPlatformClassLoader());
            this.classes = classes;
        }

        @Override
        protected Class<?> findClass(String name) throws ClassNotFoundException {
            byte[] bytes = classes.containsKey(name) ? classes.get(name) : TEST_CLASSES.get(name);
            if (bytes == null) {
                throw new ClassNotFoundException(name);
            }
            return defineClass(name, bytes, 0, bytes.length);
        }
    }

    private static Map<String, byte[]> compiled(String source) {
        JavaCompiler compiler = ToolProvider.getSystemJavaCompiler();
        Map<String, ByteArrayOutputStream> made = new HashMap<>();
        try (StandardJavaFileManager standard = compiler.getStandardFileManager(d -> { }, null, null)) {
            JavaFileManager manager = new ForwardingJavaFileManager<>(standard) {
                @Override
                public JavaFileObject getJavaFileForOutput(Location l, String name, JavaFileObject.Kind kind, FileObject sibling) {
                    ByteArrayOutputStream bytes = new ByteArrayOutputStream();
                    made.put(name, bytes);
                    return new SimpleJavaFileObject(URI.create("mem:///" + name + ".class"), kind) {
                        @Override
                        public OutputStream openOutputStream() {
                            return bytes;
                        }
                    };
                }
            };
            JavaFileObject file = new SimpleJavaFileObject(URI.create("mem:///MincedCases.java"), JavaFileObject.Kind.SOURCE) {
                @Override
                public CharSequence getCharContent(boolean ignore) {
                    return source;
                }
            };
            if (!compiler.getTask(null, manager, d -> { }, null, null, List.of(file)).call()) {
                return null;
            }
        } catch (IOException never) {
            return null;
        }
        Map<String, byte[]> classes = new HashMap<>();
        made.forEach((name, bytes) -> classes.put(name, bytes.toByteArray()));
        return classes;
    }

    // ---- what is told ----

    private static void tell(PrintStream out, List<Mutant> mutants) {
        Map<String, Integer> toldByEdge = new TreeMap<>();
        for (String id : EdgesTest.look(Set.of("none of them")).ids()) {
            toldByEdge.put(id, 0);
        }
        int compiled = 0;
        int alive = 0;
        for (Map.Entry<String, Set<String>> entry : FAILED.entrySet()) {
            Set<String> failed = entry.getValue();
            if (!failed.contains("does not compile")) {
                compiled++;
            }
            if (failed.isEmpty()) {
                alive++;
                out.println("alive: " + entry.getKey());
            }
            for (String id : failed) {
                toldByEdge.computeIfPresent(id, (k, told) -> told + 1);
            }
        }
        toldByEdge.forEach((id, told) -> {
            if (told == 0) {
                out.println("edge " + id + " told no mutant");
            }
        });
        out.println(compiled + " mutants of " + mutants.size() + " compile, " + alive + " are told by no edge");
    }
}
