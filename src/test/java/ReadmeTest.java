import java.io.IOException;
import java.io.StringWriter;
import java.lang.reflect.InvocationTargetException;
import java.lang.reflect.Method;
import java.net.URL;
import java.net.URLClassLoader;
import java.nio.file.Files;
import java.nio.file.Path;
import java.util.ArrayList;
import java.util.List;
import java.util.Set;
import java.util.TreeSet;
import java.util.regex.Matcher;
import java.util.regex.Pattern;
import java.util.stream.Stream;
import javax.tools.JavaCompiler;
import javax.tools.StandardJavaFileManager;
import javax.tools.ToolProvider;

/** That what README.md says is so: its examples, its table of calls, the parts and the tests that it names. */
public final class ReadmeTest {
    private static final Pattern BLOCK = Pattern.compile("```java\n(.*?)```", Pattern.DOTALL);
    /** A statement and what it answers: "x.undo(); // 0: no act more can be undone". */
    private static final Pattern ANSWERED =
            Pattern.compile("(.*);\\s*// (-?\\d+|true|false|throws \\w+)(: [^\n]*)?", Pattern.DOTALL);
    private static final Pattern ROW = Pattern.compile("\\| (\\d+) \\| `(\\w+)\\(([^)]*)\\)` \\| .* \\| ([^|]*) \\|");
    private static final int FAR = 99_999;

    public static void main(String[] args) throws Exception {
        Path root = Path.of(args.length > 0 ? args[0] : ".");
        String page = Files.readString(root.resolve("README.md"));
        examples(page);
        calls(page, Document.beside(args));
        named(page, "(?m)^- `(\\w+)`: ", inside(), "the classes inside");
        named(page, "`(\\w+Test)`", tests(root.resolve("src/test/java")), "the tests");
        Check.finish();
    }

    // ---- the examples

    private static void examples(String page) throws Exception {
        StringBuilder methods = new StringBuilder();
        StringBuilder statements = new StringBuilder();
        List<String> said = new ArrayList<>();
        List<String> due = new ArrayList<>();
        Matcher block = BLOCK.matcher(page);
        while (block.find()) {
            if (block.group(1).startsWith("static ")) {
                methods.append(block.group(1));
            } else {
                for (String statement : block.group(1).split("\n(?! )")) {
                    add(statement.trim(), statements, said, due);
                }
            }
        }
        Check.due("answers in the examples: " + due.size(), due.size() > 20, true);
        List<?> got = run("public final class ReadmeRun {\n" + methods
                + "public static void run(java.util.List<Object> got) {\n" + statements + "}\n}\n");
        Check.due("answers", got.size(), due.size());
        for (int i = 0; i < Math.min(got.size(), due.size()); i++) {
            Check.due(said.get(i), got.get(i).toString(), due.get(i));
        }
    }

    private static void add(String statement, StringBuilder statements, List<String> said, List<String> due) {
        Matcher m = ANSWERED.matcher(statement);
        if (m.matches()) {
            said.add(m.group(1));
            due.add(m.group(2));
            statements.append("try { got.add(").append(m.group(1)).append("); }")
                    .append(" catch (RuntimeException e) { got.add(\"throws \" + e.getClass().getSimpleName()); }\n");
        } else {
            Check.due("it says what is answered: " + statement, statement.matches("RenvoiDesk \\w = new RenvoiDesk\\(\\);"), true);
            statements.append(statement).append('\n');
        }
    }

    private static List<?> run(String source) throws Exception {
        Path work = Files.createTempDirectory("readme");
        Path file = Files.writeString(work.resolve("ReadmeRun.java"), source);
        JavaCompiler compiler = ToolProvider.getSystemJavaCompiler();
        StringWriter words = new StringWriter();
        List<Object> got = new ArrayList<>();
        try (StandardJavaFileManager files = compiler.getStandardFileManager(null, null, null)) {
            boolean sound = compiler.getTask(words, files, null, List.of("-proc:none", "-d", work.toString(), "-cp",
                    System.getProperty("java.class.path")), null, files.getJavaFileObjects(file)).call();
            Check.due("the examples compile: " + words, sound, true);
            if (sound) {
                try (URLClassLoader loader = new URLClassLoader(new URL[] {work.toUri().toURL()})) {
                    loader.loadClass("ReadmeRun").getMethod("run", List.class).invoke(null, got);
                }
            }
        } finally {
            Files.deleteIfExists(work.resolve("ReadmeRun.class"));
            Files.deleteIfExists(file);
            Files.deleteIfExists(work);
        }
        return got;
    }

    // ---- the table of calls

    private static void calls(String page, Document document) throws Exception {
        Set<String> told = new TreeSet<>();
        Matcher row = ROW.matcher(page);
        while (row.find()) {
            String name = row.group(2);
            told.add(name);
            if (document != null) {
                String call = document.call(Integer.parseInt(row.group(1)));
                Check.due("promise " + row.group(1), call.replaceAll("\\b(int|boolean|long) |\\) throws.*", "").replace(")", ""),
                        name + "(" + row.group(3));
            }
            refuses(name, row.group(4).replaceAll("[,;].*", ""));
        }
        Set<String> face = new TreeSet<>();
        for (Method each : RenvoiDesk.class.getDeclaredMethods()) {
            if (java.lang.reflect.Modifier.isPublic(each.getModifiers())) {
                face.add(each.getName());
            }
        }
        Check.due("the calls of the table", told.toString(), face.toString());
    }

    private static void refuses(String name, String with) throws IllegalAccessException {
        for (Method call : RenvoiDesk.class.getDeclaredMethods()) {
            if (call.getName().equals(name)) {
                if (name.equals("feed")) {
                    fullTape(with);
                } else if (name.equals("limps")) {
                    Check.due("limps refuses", with, "never");
                } else if (name.equals("undo")) {
                    refused(call, new Object[0], with);
                } else {
                    farOnes(call, with);
                }
            }
        }
    }

    private static void fullTape(String with) {
        RenvoiDesk x = new RenvoiDesk();
        for (int i = 0; i < 35; i++) {
            x.feed(0, 0, 0, 0, 0);
        }
        Check.due("feed on a full tape", String.valueOf(x.feed(0, 0, 0, 0, 0)), with);
        Check.due("bytes on the tape", x.count(6), 700);
    }

    /** Each number of the call, one after the other, is one of which there is none. */
    private static void farOnes(Method call, String with) throws IllegalAccessException {
        Class<?>[] types = call.getParameterTypes();
        for (int far = 0; far < types.length; far++) {
            Object[] args = new Object[types.length];
            for (int i = 0; i < args.length; i++) {
                args[i] = types[i] == boolean.class ? (Object) false : (Object) (i == far ? FAR : 0);
            }
            if (types[far] == int.class) {
                refused(call, args, with);
                args[far] = -FAR;
                refused(call, args, with);
            }
        }
    }

    private static void refused(Method call, Object[] args, String with) throws IllegalAccessException {
        RenvoiDesk x = Check.told(Bounds.SMALL);
        String before = Bounds.picture(x);
        String got;
        try {
            got = String.valueOf(call.invoke(x, args));
        } catch (InvocationTargetException e) {
            got = e.getCause().getClass().getSimpleName();
        }
        Check.due(call.getName() + List.of(args) + " refuses", got, with);
        Bounds.stays(x, before, 0, 0);
    }

    // ---- names

    private static void named(String page, String pattern, Set<String> there, String what) {
        Set<String> told = new TreeSet<>();
        Matcher m = Pattern.compile(pattern).matcher(page);
        while (m.find()) {
            told.add(m.group(1));
        }
        told.removeIf(name -> what.equals("the classes inside") && name.endsWith("Test"));
        Check.due(what + " that it names", told.toString(), there.toString());
    }

    private static Set<String> inside() {
        Set<String> all = new TreeSet<>();
        for (Class<?> each : RenvoiDesk.class.getDeclaredClasses()) {
            all.add(each.getSimpleName());
        }
        return all;
    }

    private static Set<String> tests(Path folder) throws IOException {
        Set<String> all = new TreeSet<>();
        try (Stream<Path> files = Files.list(folder)) {
            files.map(file -> file.getFileName().toString()).filter(name -> name.endsWith(".java"))
                    .forEach(name -> all.add(name.substring(0, name.length() - 5)));
        }
        return all;
    }
}
