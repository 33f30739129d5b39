import java.io.IOException;
import java.lang.reflect.Constructor;
import java.lang.reflect.Field;
import java.lang.reflect.Method;
import java.lang.reflect.Modifier;
import java.nio.file.Files;
import java.nio.file.Path;
import java.util.ArrayList;
import java.util.Arrays;
import java.util.List;
import java.util.Map;
import java.util.Set;
import java.util.TreeSet;
import java.util.regex.Matcher;
import java.util.regex.Pattern;

/** The public face as the document has it, and what of LANGUAGE.md can be seen from outside. */
public final class FaceTest {
    private static final String[] FACE = {
        "int feed(int,int,int,int,int)", "int desk(int)", "int land(int,int)", "int fact(int)", "int rule(int,int,int)",
        "int inner(int,int)", "int head(int)", "int deed(int)", "int road(int,int,int)", "int ends(int,int,int)",
        "int trapped(int)", "int loop(int,int)", "int comes(int,int,int)", "int answer(int,int,int)",
        "int unlike(int,int)", "int most(int,int)", "int shop(int,int)", "long tally(int)", "int stands(int,int)",
        "int where(int)", "int limps()", "int best(int,int)", "int fewest(int)", "int tie(int,int)", "int think(int,int)",
        "boolean point(int,int,int,boolean)", "int say(int,int,int)", "int join(int,int)", "int cut(int)",
        "boolean mirror(int,int)", "int undo()", "boolean keep(int,boolean)", "int count(int)"};

    public static void main(String[] args) throws IOException {
        members();
        nested();
        String text = Files.readString(Path.of(args.length > 0 ? args[0] : ".", "src", "main", "java", "RenvoiDesk.java"));
        source(text);
        Document document = Document.beside(args);
        if (document == null) {
            System.out.println("../shared/DOC.md is not there: the face is not held against it");
        } else {
            asTheDocumentWritesIt(document, text);
            asTheInterfaceSays(document, text);
        }
        Check.finish();
    }

    /** Each line of the document's face stands in the source, names and throws too; each promise has the call of one. */
    private static void asTheDocumentWritesIt(Document document, String text) {
        String face = document.part("The public face");
        List<String> calls = new ArrayList<>();
        Matcher m = Pattern.compile("public ([^;{]*\\([^;]*);").matcher(face);
        while (m.find()) {
            calls.add(m.group(1));
            Check.due("in the source: " + m.group(1), text.contains("    public " + m.group(1) + " {"), true);
        }
        Check.due("calls of the face, with its constructor", calls.size(), FACE.length + 1);
        Check.due("the class", face.contains("public final class RenvoiDesk {") && text.contains("\npublic final class RenvoiDesk {"), true);
        String none = "public static final int NONE = -1;";
        Check.due("the constant", face.contains(none) && text.contains(none), true);
        for (int promise = 1; promise <= Document.PROMISES; promise++) {
            Check.due("call of promise " + promise, document.call(promise), calls.get(promise - 1));
        }
        String first = document.part("What it is").replaceAll("\\. .*", ".");
        Check.due("the class says: " + first, text.replaceAll("\\s+\\*? *", " ").contains(first), true);
    }

    private static void asTheInterfaceSays(Document document, String text) {
        Map<String, List<String>> groups = document.groups();
        Check.due("groups of calls", groups.keySet().toString(), "[roads, theories, deeds, acts]");
        for (Map.Entry<String, List<String>> group : groups.entrySet()) {
            int from = text.indexOf("    // ---- " + group.getKey() + "\n");
            int to = text.indexOf("    // ---- ", from + 1);
            String part = from < 0 ? "" : text.substring(from, to < 0 ? text.length() : to);
            Matcher m = Pattern.compile("\n    public \\w+ (\\w+)\\(").matcher(part);
            List<String> calls = new ArrayList<>();
            while (m.find()) {
                calls.add(m.group(1));
            }
            Check.due("calls behind ---- " + group.getKey(), calls.toString(), group.getValue().toString());
        }
    }

    private static String signature(Method m) {
        StringBuilder out = new StringBuilder(m.getReturnType() + " " + m.getName() + "(");
        for (Class<?> each : m.getParameterTypes()) {
            out.append(out.charAt(out.length() - 1) == '(' ? "" : ",").append(each);
        }
        return out.append(')').toString();
    }

    private static void members() {
        Class<?> face = RenvoiDesk.class;
        Check.due("public and final", Modifier.isPublic(face.getModifiers()) && Modifier.isFinal(face.getModifiers()), true);
        Check.due("NONE", RenvoiDesk.NONE, -1);
        Set<String> seen = new TreeSet<>();
        Set<String> publicNames = new TreeSet<>();
        for (Method m : face.getDeclaredMethods()) {
            if (Modifier.isPublic(m.getModifiers())) {
                seen.add(signature(m));
                publicNames.add(m.getName());
            } else {
                Check.due(m + " is private", Modifier.isPrivate(m.getModifiers()), true);
            }
        }
        Check.due("the methods of the face: " + seen, seen.equals(new TreeSet<>(Arrays.asList(FACE))), true);
        for (Method m : face.getDeclaredMethods()) {
            boolean hides = !Modifier.isPublic(m.getModifiers()) && publicNames.contains(m.getName());
            Check.due(m + " bears the name of a public one", hides, false);
        }
        for (Field f : face.getDeclaredFields()) {
            boolean fits = f.getName().equals("NONE") ? Modifier.isPublic(f.getModifiers()) : Modifier.isPrivate(f.getModifiers());
            Check.due(f + " is as visible as it must be", fits, true);
            Check.due(f + " is no static state", Modifier.isStatic(f.getModifiers()) && !Modifier.isFinal(f.getModifiers()), false);
        }
        Constructor<?>[] made = face.getDeclaredConstructors();
        Check.due("one constructor", made.length, 1);
        Check.due("without arguments", made[0].getParameterCount(), 0);
        Check.due("public", Modifier.isPublic(made[0].getModifiers()), true);
    }

    private static void nested() {
        Class<?>[] inside = RenvoiDesk.class.getDeclaredClasses();
        Check.due("some twelve classes at most", inside.length <= 11, true);
        for (Class<?> each : inside) {
            int how = each.getModifiers();
            Check.due(each + " is static, not public", Modifier.isStatic(how) && !Modifier.isPublic(how) && !Modifier.isProtected(how), true);
            int fields = 0;
            for (Field f : each.getDeclaredFields()) {
                boolean fixed = Modifier.isStatic(f.getModifiers());
                fields += fixed ? 0 : 1;
                Check.due(f + " is no static state", fixed && !Modifier.isFinal(f.getModifiers()), false);
            }
            Check.due(each + " has some twenty fields at most", fields <= 20, true);
            for (Method m : each.getDeclaredMethods()) {
                Check.due(m + " has seven parameters at most", m.getParameterCount() <= 7, true);
            }
        }
    }

    private static void source(String text) {
        for (String word : new String[] {"->", "::", "catch", "finally", "synchronized", "assert ", "package ", "static {",
            "Exact", "Random", "System.out", "System.nano", "System.current", "double", "float", "hashCode", "getMessage"}) {
            Check.due("'" + word + "' in the source", text.contains(word), false);
        }
        int imports = 0;
        for (String line : text.split("\n")) {
            if (line.startsWith("import ")) {
                imports++;
                Check.due(line + " is allowed", line.equals("import java.util.Arrays;")
                        || line.equals("import java.util.NoSuchElementException;"), true);
            }
        }
        Check.due("imports", imports, 2);
        for (char sign : text.toCharArray()) {
            if (sign > 126 || sign < 32 && sign != '\n') {
                Check.due("sign " + (int) sign + " in the source", true, false);
            }
        }
    }
}
