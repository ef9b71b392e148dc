import java.io.ByteArrayOutputStream;
import java.io.PrintStream;
import java.net.URL;
import java.net.URLClassLoader;
import java.nio.charset.StandardCharsets;
import java.nio.file.Files;
import java.nio.file.Path;
import java.util.ArrayList;
import java.util.Comparator;
import java.util.List;
import java.util.stream.Stream;
import javax.tools.JavaCompiler;
import javax.tools.ToolProvider;

/** README.md's example, compiled and run as it is written there, prints what is written there. */
public final class ReadmeTests {
    private static final Check CHECK = new Check();

    public static void main(String[] args) throws Exception {
        List<String> lines = Files.readAllLines(Path.of("README.md"));
        List<String> program = blocks(lines, "java");
        List<String> printed = blocks(lines, "text");
        CHECK.is("programs", program.size(), 1);
        CHECK.is("texts that are printed", printed.size(), 1);
        Path room = Files.createTempDirectory("readme");
        try {
            compare(run(room, program.get(0)).split("\n", -1), printed.get(0).split("\n", -1));
        } finally {
            sweep(room);
        }
        everyCallIsTold(String.join("\n", lines));
        CHECK.close();
    }

    /** What stands between the fences of this kind. */
    private static List<String> blocks(List<String> lines, String kind) {
        List<String> all = new ArrayList<>();
        StringBuilder open = null;
        for (String line : lines) {
            if (open == null) {
                open = line.equals("```" + kind) ? new StringBuilder() : null;
            } else if (line.equals("```")) {
                all.add(open.toString());
                open = null;
            } else {
                open.append(line).append('\n');
            }
        }
        return all;
    }

    private static String run(Path room, String program) throws Exception {
        Path source = Files.writeString(room.resolve("Example.java"), program);
        JavaCompiler compiler = ToolProvider.getSystemJavaCompiler();
        int failed = compiler.run(null, null, null, "--release", "17", "-Xlint:all", "-Werror",
            "-cp", System.getProperty("java.class.path"), "-d", room.toString(), source.toString());
        CHECK.is("compiling the example", failed, 0);
        if (failed != 0) {
            return "";
        }
        PrintStream own = System.out;
        ByteArrayOutputStream said = new ByteArrayOutputStream();
        try (URLClassLoader loader = new URLClassLoader(new URL[] {room.toUri().toURL()})) {
            System.setOut(new PrintStream(said, true, StandardCharsets.UTF_8));
            loader.loadClass("Example").getMethod("main", String[].class).invoke(null, (Object) new String[0]);
        } finally {
            System.setOut(own);
        }
        return said.toString(StandardCharsets.UTF_8).replace("\r", "");
    }

    private static void compare(String[] got, String[] due) {
        CHECK.is("lines printed", got.length, due.length);
        for (int i = 0; i < Math.min(got.length, due.length); i++) {
            CHECK.is("line \"" + got[i] + "\", told as \"" + due[i] + "\",", got[i].equals(due[i]), true);
        }
    }

    private static void everyCallIsTold(String readme) {
        for (var method : WolfHalf.class.getDeclaredMethods()) {
            if (java.lang.reflect.Modifier.isPublic(method.getModifiers())) {
                CHECK.is("README tells of " + method.getName(), readme.contains(method.getName() + "("), true);
            }
        }
    }

    private static void sweep(Path room) throws Exception {
        try (Stream<Path> all = Files.walk(room)) {
            for (Path path : all.sorted(Comparator.reverseOrder()).toList()) {
                Files.delete(path);
            }
        }
    }
}
