import java.io.IOException;
import java.lang.reflect.Method;
import java.lang.reflect.Modifier;
import java.net.URL;
import java.net.URLClassLoader;
import java.nio.file.Files;
import java.nio.file.Path;
import java.util.ArrayList;
import java.util.List;
import java.util.regex.Matcher;
import java.util.regex.Pattern;
import javax.tools.ToolProvider;

/** The examples of README.md are run, each answer behind // compared; its table has every call, and no other. */
public final class ReadmeTest {
    private static int wrong = 0;
    private static int rows = 0;

    private static void must(boolean so, String what) {
        if (!so) {
            wrong++;
            System.out.println("not so: " + what);
        }
    }

    /** Called by the examples. */
    public static void due(String line, long got, long want) {
        rows++;
        must(got == want, line + " (answered " + got + ")");
    }

    public static void main(String[] args) throws Exception {
        String page = Files.readString(Path.of("README.md"));
        table(page);
        Matcher block = Pattern.compile("(?s)```java\n(.*?)```").matcher(page);
        int blocks = 0;
        while (block.find()) {
            blocks++;
            run("ReadmeExample" + blocks, block.group(1));
        }
        must(blocks == 2 && rows == 21, "two examples of 21 answers: " + blocks + ", " + rows);
        System.out.println(wrong == 0 ? "README.md is so" : wrong + " of README.md are not so");
        if (wrong != 0) {
            System.exit(1);
        }
    }

    private static void table(String page) {
        List<String> told = new ArrayList<>();
        Matcher call = Pattern.compile("(?m)^\\| `(\\w+)\\(([\\w, ]*)\\)` \\|").matcher(page);
        while (call.find()) {
            told.add(call.group(1) + " " + (call.group(2).isEmpty() ? 0 : call.group(2).split(",").length));
        }
        List<String> there = new ArrayList<>();
        for (Method m : LastRower.class.getDeclaredMethods()) {
            if (Modifier.isPublic(m.getModifiers())) {
                there.add(m.getName() + " " + m.getParameterCount());
            }
        }
        told.sort(null);
        there.sort(null);
        must(told.equals(there), "the table has the calls " + there + ", it tells " + told);
    }

    private static void run(String name, String example) throws Exception {
        StringBuilder code = new StringBuilder("public final class " + name + " {\n    public static void main(String[] a) {\n");
        Pattern answered = Pattern.compile("^(x\\.\\w+\\(.*\\)); +// (-?\\d+)\\b.*$");
        for (String line : example.split("\n")) {
            Matcher m = answered.matcher(line);
            String quoted = "\"" + line.replace("\\", "\\\\").replace("\"", "\\\"") + "\"";
            code.append(m.matches() ? "ReadmeTest.due(" + quoted + ", " + m.group(1) + ", " + m.group(2) + ");" : line);
            code.append('\n');
        }
        code.append("    }\n}\n");
        Path room = Files.createTempDirectory("readme");
        try {
            Path source = room.resolve(name + ".java");
            Files.writeString(source, code);
            int result = ToolProvider.getSystemJavaCompiler().run(null, null, null, "-cp",
                System.getProperty("java.class.path"), "-d", room.toString(), source.toString());
            must(result == 0, name + " compiles");
            if (result == 0) {
                call(room, name);
            }
        } finally {
            empty(room);
        }
    }

    private static void call(Path room, String name) throws Exception {
        try (URLClassLoader loader = new URLClassLoader(new URL[] {room.toUri().toURL()})) {
            loader.loadClass(name).getMethod("main", String[].class).invoke(null, (Object) new String[0]);
        }
    }

    private static void empty(Path room) throws IOException {
        try (var inside = Files.list(room)) {
            for (Path file : inside.toList()) {
                Files.delete(file);
            }
        }
        Files.delete(room);
    }
}
