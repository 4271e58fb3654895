import java.io.IOException;
import java.lang.reflect.InvocationTargetException;
import java.lang.reflect.Method;
import java.lang.reflect.Modifier;
import java.net.URL;
import java.net.URLClassLoader;
import java.nio.file.Files;
import java.nio.file.Path;
import java.util.ArrayList;
import java.util.Comparator;
import java.util.HashSet;
import java.util.List;
import java.util.Set;
import java.util.regex.Matcher;
import java.util.regex.Pattern;
import java.util.stream.Stream;
import javax.tools.JavaCompiler;
import javax.tools.ToolProvider;

/** README.md's pieces of Java are compiled and run as they stand there; each call answers what stands behind it. */
public final class ReadmeTest {
    private static final Pattern CALL = Pattern.compile(
            "((?:x\\.(\\w+)|tell)\\(.*\\)); *// (-?\\d+|true|false|Integer\\.MIN_VALUE|Long\\.MIN_VALUE|throws (\\w+))(?:: .*)?");
    private static final String NEW = "WeighingPlates x = new WeighingPlates();";
    private static int wrong = 0;

    private final StringBuilder members = new StringBuilder();
    private final Set<String> called = new HashSet<>();
    private int pieces = 0;

    public static void main(String[] args) throws Exception {
        ReadmeTest test = new ReadmeTest();
        String program = test.programOf(Files.readAllLines(Path.of(System.getProperty("readme", "README.md"))));
        for (Method m : WeighingPlates.class.getDeclaredMethods()) {
            check(!Modifier.isPublic(m.getModifiers()) || test.called.contains(m.getName()), "README.md has no call of " + m.getName());
        }
        check(test.pieces > 0, "README.md has no piece that is run");
        if (wrong == 0) {
            run(program);
        }
        System.out.println(wrong == 0 ? "the README's calls answer what it says" : wrong + " things of the README are not as due");
        if (wrong != 0) {
            System.exit(1);
        }
    }

    private static void check(boolean good, String what) {
        if (!good) {
            wrong++;
            System.out.println(what);
        }
    }

    private String programOf(List<String> lines) {
        for (int i = 0; i < lines.size(); i++) {
            if (lines.get(i).equals("```java")) {
                List<String> piece = new ArrayList<>();
                for (i++; i < lines.size() && !lines.get(i).equals("```"); i++) {
                    piece.add(lines.get(i));
                }
                take(piece);
            }
        }
        StringBuilder program = new StringBuilder("public final class ReadmePieces {\n    public static int wrong = 0;\n");
        program.append("static void due(String call, Object got, Object want) {\n");
        program.append("if (!got.equals(want)) { wrong++; System.out.println(\"README.md: \" + call + \" answered \" + got); }\n}\n");
        // An answer's width isn't told in the README, so both are compared as longs.
        program.append("static void due(String call, long got, long want) { due(call, (Object) got, (Object) want); }\n");
        program.append("static void due(String call, boolean got, boolean want) { due(call, (Object) got, (Object) want); }\n");
        program.append(members).append("public static void run() {\n");
        for (int i = 0; i < pieces; i++) {
            program.append("piece").append(i).append("();\n");
        }
        return program.append("}\n}\n").toString();
    }

    /** A piece is a function, or it begins with a new object and has nothing but calls with their answers. */
    private void take(List<String> piece) {
        if (!piece.isEmpty() && piece.get(0).startsWith("static ")) {
            members.append(String.join("\n", piece)).append("\n");
            return;
        }
        check(!piece.isEmpty() && piece.get(0).equals(NEW), "a piece of README.md begins with no new object");
        members.append("static void piece").append(pieces).append("() {\n");
        pieces++;
        for (String line : piece) {
            if (line.equals(NEW)) {
                members.append(line).append("\n");
            } else if (!line.isBlank() && !line.startsWith("//")) {
                takeCall(line);
            }
        }
        members.append("}\n");
    }

    private void takeCall(String line) {
        Matcher m = CALL.matcher(line);
        if (!m.matches()) {
            check(false, "no call with its answer: " + line);
            return;
        }
        if (m.group(2) != null) {
            called.add(m.group(2));
        }
        String name = "\"" + m.group(1).replace("\\", "\\\\").replace("\"", "\\\"") + "\"";
        if (m.group(4) == null) {
            members.append("due(").append(name).append(", ").append(m.group(1)).append(", ").append(m.group(3)).append(");\n");
        } else {
            members.append("try { due(").append(name).append(", (Object) ").append(m.group(1)).append(", \"nothing\"); }\n");
            members.append("catch (java.util.").append(m.group(4)).append(" e) { }\n");
        }
    }

    private static void run(String program) throws IOException, ReflectiveOperationException {
        Path room = Files.createTempDirectory("readme");
        try {
            Path file = room.resolve("ReadmePieces.java");
            Files.writeString(file, program);
            JavaCompiler compiler = ToolProvider.getSystemJavaCompiler();
            int failed = compiler.run(null, null, null, "-cp", System.getProperty("java.class.path"), "-d", room.toString(), file.toString());
            check(failed == 0, "README.md's pieces don't compile");
            if (failed == 0) {
                load(room);
            }
        } finally {
            clear(room);
        }
    }

    private static void load(Path room) throws IOException, ReflectiveOperationException {
        try (URLClassLoader loader = new URLClassLoader(new URL[] {room.toUri().toURL()}, ReadmeTest.class.getClassLoader())) {
            Class<?> pieces = loader.loadClass("ReadmePieces");
            try {
                pieces.getMethod("run").invoke(null);
            } catch (InvocationTargetException e) {
                check(false, "README.md's pieces threw " + e.getCause());
            }
            wrong += pieces.getField("wrong").getInt(null);
        }
    }

    private static void clear(Path room) throws IOException {
        try (Stream<Path> all = Files.walk(room)) {
            for (Path path : all.sorted(Comparator.reverseOrder()).toList()) {
                Files.delete(path);
            }
        }
    }
}
