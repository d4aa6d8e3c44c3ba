import java.io.ByteArrayOutputStream;
import java.io.IOException;
import java.io.OutputStream;
import java.net.URI;
import java.nio.file.Files;
import java.nio.file.Path;
import java.util.ArrayList;
import java.util.HashMap;
import java.util.List;
import java.util.Map;
import javax.tools.DiagnosticCollector;
import javax.tools.FileObject;
import javax.tools.ForwardingJavaFileManager;
import javax.tools.JavaCompiler;
import javax.tools.JavaFileManager;
import javax.tools.JavaFileObject;
import javax.tools.SimpleJavaFileObject;
import javax.tools.ToolProvider;

/**
 * A tool, not a test: it breaks each sentence of the document in the program, in the ways that src/test/mutants.txt
 * tells, and says for which of them the sentence's own tests in src/test/boundaries still pass.
 */
public final class Mutants {
    private static final Path PROGRAM = Path.of("src", "main", "java", "LeaseServer.java");
    private static final Path MUTANTS = Path.of("src", "test", "mutants.txt");
    private static final String SEPARATOR = " >> ";

    private static final JavaCompiler COMPILER = ToolProvider.getSystemJavaCompiler();

    private static int done = 0;
    private static int wrong = 0;

    public static void main(String[] args) throws Exception {
        String program = Files.readString(PROGRAM);
        Map<String, List<Case>> cases = new HashMap<>();
        for (Case one : Case.readAll()) {
            if (!one.isNone()) {
                cases.computeIfAbsent(one.title(), title -> new ArrayList<>()).add(one);
            }
        }
        Map<String, List<Case>> unbroken = new HashMap<>(cases);
        String place = "";
        String title = "";
        for (String line : Files.readAllLines(MUTANTS)) {
            if (line.startsWith("== ")) {
                place = line.substring(3);
            } else if (line.startsWith("-- ")) {
                title = place + ", \"" + line.substring(3) + "\"";
                unbroken.remove(title);
            } else if (!line.startsWith("#") && line.contains(SEPARATOR)) {
                tryMutant(program, line, title, cases.getOrDefault(title, List.of()));
            }
        }
        for (String sentence : unbroken.keySet()) {
            say("no way to break " + sentence);
        }
        System.out.println(done + " mutants, " + wrong + " wrong");
        System.exit(wrong == 0 ? 0 : 1);
    }

    private static void tryMutant(String program, String line, String title, List<Case> cases) throws Exception {
        done++;
        String mutant = mutated(program, line.replace("\\n", "\n"));
        if (mutant == null) {
            say("not to be found in the program: " + line);
            return;
        }
        Class<?> type = compiled(mutant);
        if (type == null) {
            say("does not compile: " + line);
            return;
        }
        boolean found = false;
        for (int i = 0; i < cases.size() && !found; i++) {
            found = !Script.faults(type.getDeclaredConstructor().newInstance(), cases.get(i).rows).isEmpty();
        }
        if (!found) {
            say("not noticed by the tests of " + title + ": " + line);
        }
    }

    private static void say(String what) {
        wrong++;
        System.out.println(what);
    }

    private static String mutated(String program, String line) {
        String[] parts = line.split(SEPARATOR, -1);
        int anchor = program.indexOf(parts[0]);
        int place = anchor < 0 ? -1 : program.indexOf(parts[1], anchor + parts[0].length());
        if (place < 0) {
            return null;
        }
        return program.substring(0, place) + parts[2] + program.substring(place + parts[1].length());
    }

    private static Class<?> compiled(String program) throws IOException, ClassNotFoundException {
        DiagnosticCollector<JavaFileObject> complaints = new DiagnosticCollector<>();
        try (Memory memory = new Memory(COMPILER.getStandardFileManager(complaints, null, null))) {
            boolean good = COMPILER.getTask(null, memory, complaints, List.of("-Xlint:none", "-proc:none"), null,
                List.of(new Source(program))).call();
            return good ? memory.loader().loadClass("LeaseServer") : null;
        }
    }

    private static final class Source extends SimpleJavaFileObject {
        private final String text;

        Source(String text) {
            super(URI.create("string:///LeaseServer.java"), Kind.SOURCE);
            this.text = text;
        }

        @Override
        public CharSequence getCharContent(boolean ignoreEncodingErrors) {
            return text;
        }
    }

    private static final class Bytes extends SimpleJavaFileObject {
        private final ByteArrayOutputStream bytes = new ByteArrayOutputStream();

        Bytes(String name) {
            super(URI.create("bytes:///" + name.replace('$', '_') + ".class"), Kind.CLASS);
        }

        @Override
        public OutputStream openOutputStream() {
            return bytes;
        }
    }

    /** Keeps the classes that the compiler writes, each program in a loader of its own. */
    private static final class Memory extends ForwardingJavaFileManager<JavaFileManager> {
        private final Map<String, Bytes> classes = new HashMap<>();

        Memory(JavaFileManager manager) {
            super(manager);
        }

        @Override
        public JavaFileObject getJavaFileForOutput(Location location, String name, JavaFileObject.Kind kind,
                FileObject sibling) {
            return classes.computeIfAbsent(name, Bytes::new);
        }

        ClassLoader loader() {
            return new ClassLoader(ClassLoader.getPlatformClassLoader()) {
                @Override
                protected Class<?> findClass(String name) throws ClassNotFoundException {
                    Bytes found = classes.get(name);
                    if (found == null) {
                        throw new ClassNotFoundException(name);
                    }
                    byte[] code = found.bytes.toByteArray();
                    return defineClass(name, code, 0, code.length);
                }
            };
        }
    }
}
