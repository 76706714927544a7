import java.lang.reflect.Constructor;
import java.lang.reflect.Field;
import java.lang.reflect.Method;
import java.lang.reflect.Modifier;
import java.nio.charset.StandardCharsets;
import java.nio.file.Files;
import java.nio.file.Path;
import java.nio.file.Paths;
import java.util.ArrayList;
import java.util.Arrays;
import java.util.HashSet;
import java.util.List;
import java.util.Set;
import java.util.TreeSet;

/** The face is the document's, and the file keeps to what of LANGUAGE.md can be seen from outside. */
public final class FaceTest {
    private static final String SOURCE = "src/main/java/KnitTreaty.java";
    private static final String DOCUMENT = "../shared/DOC.md";
    private static int wrong = 0;

    public static void main(String[] args) throws Exception {
        face(args.length > 0 ? args[0] : DOCUMENT);
        members();
        source(args.length > 1 ? args[1] : SOURCE);
        System.out.println(wrong == 0 ? "the face is as due" : wrong + " faults of the face");
        if (wrong > 0) {
            System.exit(1);
        }
    }

    private static void must(boolean fine, String what) {
        if (!fine) {
            wrong++;
            System.out.println(what);
        }
    }

    private static void face(String document) throws Exception {
        Path path = Paths.get(document);
        Set<String> due = new TreeSet<>();
        for (String line : Files.readAllLines(path, StandardCharsets.UTF_8)) {
            String s = line.trim();
            if (s.startsWith("public ") && s.endsWith(");")) {
                due.add(s.substring(7, s.length() - 1).replaceAll("(\\w+) \\w+([,)])", "$1$2"));
            }
        }
        due.remove("KnitTreaty()");
        Set<String> got = new TreeSet<>();
        for (Method m : KnitTreaty.class.getDeclaredMethods()) {
            if (Modifier.isPublic(m.getModifiers())) {
                List<String> types = new ArrayList<>();
                for (Class<?> c : m.getParameterTypes()) {
                    types.add(c.getSimpleName());
                }
                got.add(m.getReturnType().getSimpleName() + " " + m.getName() + "(" + String.join(", ", types) + ")");
            }
        }
        must(got.equals(due), "the public methods are " + got + ", due are " + due);
        must(due.size() == 62, "the document's face has " + due.size() + " methods");
        must(KnitTreaty.NONE == -1, "NONE is not -1");
    }

    private static void members() {
        Set<String> open = new HashSet<>();
        for (Method m : KnitTreaty.class.getDeclaredMethods()) {
            if (Modifier.isPublic(m.getModifiers())) {
                open.add(m.getName());
            } else {
                must(Modifier.isPrivate(m.getModifiers()), "not private: " + m);
            }
            must(m.getParameterCount() <= 7, "too many parameters: " + m);
        }
        for (Field f : KnitTreaty.class.getDeclaredFields()) {
            must(Modifier.isPrivate(f.getModifiers()) || f.getName().equals("NONE"), "not private: " + f);
        }
        for (Constructor<?> c : KnitTreaty.class.getDeclaredConstructors()) {
            must(Modifier.isPublic(c.getModifiers()) && c.getParameterCount() == 0, "no such constructor: " + c);
        }
        Class<?>[] inside = KnitTreaty.class.getDeclaredClasses();
        must(inside.length <= 11, "too many classes");
        for (Class<?> c : inside) {
            must(Modifier.isStatic(c.getModifiers()) && Modifier.isPrivate(c.getModifiers()), "not private static: " + c);
            for (Method m : c.getDeclaredMethods()) {
                must(!Modifier.isPrivate(m.getModifiers()) || !open.contains(m.getName()), "a public one's name: " + m);
                must(m.getParameterCount() <= 7, "too many parameters: " + m);
            }
            statics(c);
        }
        statics(KnitTreaty.class);
        must(Modifier.isFinal(KnitTreaty.class.getModifiers()), "the class is not final");
    }

    private static void statics(Class<?> c) {
        int fields = 0;
        for (Field f : c.getDeclaredFields()) {
            if (Modifier.isStatic(f.getModifiers())) {
                must(Modifier.isFinal(f.getModifiers()), "static and not final: " + f);
            } else {
                fields++;
            }
        }
        must(fields <= 20, "too many fields: " + c);
    }

    private static void source(String file) throws Exception {
        byte[] bytes = Files.readAllBytes(Paths.get(file));
        for (byte b : bytes) {
            must(b > 0, "a sign that is not among 1 to 127");
        }
        String text = new String(bytes, StandardCharsets.ISO_8859_1);
        for (String odd : Arrays.asList("->", "::", "catch (", "finally", "throw ", "package ", "System.out",
                "Exact(", "synchronized", "assert ", "instanceof")) {
            must(!text.contains(odd), "the source has " + odd);
        }
        int line = 0;
        int begin = 0;
        for (String s : text.split("\n")) {
            line++;
            must(!s.startsWith("import ") || s.equals("import java.util.Arrays;"), "line " + line + ": " + s);
            if (s.matches(" {4,8}[a-zA-Z].*\\) \\{")) {
                begin = line;
            } else if (s.matches(" {4,8}\\}") && begin > 0) {
                must(line - begin <= 60, "line " + begin + ": a long method");
                begin = 0;
            }
        }
    }
}
