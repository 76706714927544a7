import java.io.ByteArrayOutputStream;
import java.io.File;
import java.io.PrintStream;
import java.lang.reflect.Method;
import java.lang.reflect.Modifier;
import java.net.URL;
import java.net.URLClassLoader;
import java.nio.charset.StandardCharsets;
import java.nio.file.Files;
import java.nio.file.Path;
import java.nio.file.Paths;
import java.util.stream.Stream;
import javax.tools.ToolProvider;

/** README.md tells the truth: its program compiles and prints what stands there, and it names every call. */
public final class ReadmeTest {
    private static int wrong = 0;

    public static void main(String[] args) throws Exception {
        String page = Files.readString(Paths.get(args.length > 0 ? args[0] : "README.md"), StandardCharsets.UTF_8);
        Path folder = Files.createTempDirectory("readme");
        try {
            String due = block(page, "text");
            String got = printed(folder, block(page, "java"));
            must(got.equals(due), "the program prints\n" + got + "and not\n" + due);
        } finally {
            clear(folder);
        }
        for (Method m : KnitTreaty.class.getDeclaredMethods()) {
            if (Modifier.isPublic(m.getModifiers())) {
                must(page.contains("`" + m.getName() + "`") || page.contains("`" + m.getName() + "()`"),
                        "the page does not name " + m.getName());
            }
        }
        for (File f : new File("src/test/java").listFiles()) {
            must(page.contains("`" + f.getName() + "`"), "the page does not name " + f.getName());
        }
        System.out.println(wrong == 0 ? "the page holds" : "the page does not hold");
        if (wrong > 0) {
            System.exit(1);
        }
    }

    private static void must(boolean fine, String what) {
        if (!fine) {
            wrong++;
            System.out.println(what);
        }
    }

    /** What stands between the first such fence and the next one. */
    private static String block(String page, String sort) {
        String fence = "```" + sort + "\n";
        int from = page.indexOf(fence) + fence.length();
        return page.substring(from, page.indexOf("```", from));
    }

    private static String printed(Path folder, String program) throws Exception {
        Path file = folder.resolve("Example.java");
        Files.writeString(file, program);
        String classes = new File(KnitTreaty.class.getProtectionDomain().getCodeSource().getLocation().toURI()).getPath();
        int failed = ToolProvider.getSystemJavaCompiler().run(null, null, null, "-cp", classes, "-d", folder.toString(),
                file.toString());
        if (failed != 0) {
            return "nothing: it does not compile\n";
        }
        PrintStream out = System.out;
        ByteArrayOutputStream bytes = new ByteArrayOutputStream();
        try (URLClassLoader loader = new URLClassLoader(new URL[] {folder.toUri().toURL()})) {
            System.setOut(new PrintStream(bytes, true));
            loader.loadClass("Example").getMethod("main", String[].class).invoke(null, (Object) new String[0]);
        } finally {
            System.setOut(out);
        }
        return bytes.toString().replace("\r\n", "\n");
    }

    private static void clear(Path folder) throws Exception {
        try (Stream<Path> files = Files.list(folder)) {
            for (Path p : (Iterable<Path>) files::iterator) {
                Files.delete(p);
            }
        }
        Files.delete(folder);
    }
}
