import java.io.IOException;
import java.lang.reflect.Constructor;
import java.lang.reflect.Field;
import java.lang.reflect.Method;
import java.lang.reflect.Modifier;
import java.nio.file.Files;
import java.nio.file.Path;
import java.util.Arrays;
import java.util.Set;
import java.util.TreeSet;

/** The public face as the document has it, and what of LANGUAGE.md can be seen from outside. */
public final class FaceTest {
    private static final String[] FACE = {
        "int feed(int,int,int,int,int)", "int desk(int)", "int land(int,int)", "int fact(int)", "int rule(int,int,int)",
        "int inner(int,int)", "int head(int)", "int deed(int)", "int road(int,int,int)", "int ends(int,int,int)",
        "int trapped(int)", "int loop(int,int)", "int comes(int,int,int)", "int answer(int,int,int)",
        "int unlike(int,int)", "int most(int,int)", "int shop(int,int)", "long tally(int)", "int stands(int,int)",
        "int where(int)", "int limps()", "int best(int,int)", "int fewest(int)", "int tie(int,int)", "int think(int,int)",
        "boolean point(int,int,int,boolean)", "int say(int,int,int)", "int join(int,int)", "int cut(int)",
        "boolean mirror(int,int)", "int undo()", "boolean keep(int,boolean)", "int count(int)"};

    public static void main(String[] args) throws IOException {
        members();
        nested();
        source(Path.of(args.length > 0 ? args[0] : ".", "src", "main", "java", "RenvoiDesk.java"));
        Check.finish();
    }

    private static String signature(Method m) {
        StringBuilder out = new StringBuilder(m.getReturnType() + " " + m.getName() + "(");
        for (Class<?> each : m.getParameterTypes()) {
            out.append(out.charAt(out.length() - 1) == '(' ? "" : ",").append(each);
        }
        return out.append(')').toString();
    }

    private static void members() {
        Class<?> face = RenvoiDesk.class;
        Check.due("public and final", Modifier.isPublic(face.getModifiers()) && Modifier.isFinal(face.getModifiers()), true);
        Set<String> seen = new TreeSet<>();
        Set<String> publicNames = new TreeSet<>();
        for (Method m : face.getDeclaredMethods()) {
            if (Modifier.isPublic(m.getModifiers())) {
                seen.add(signature(m));
                publicNames.add(m.getName());
            } else {
                Check.due(m + " is private", Modifier.isPrivate(m.getModifiers()), true);
            }
        }
        Check.due("the methods of the face: " + seen, seen.equals(new TreeSet<>(Arrays.asList(FACE))), true);
        for (Method m : face.getDeclaredMethods()) {
            boolean hides = !Modifier.isPublic(m.getModifiers()) && publicNames.contains(m.getName());
            Check.due(m + " bears the name of a public one", hides, false);
        }
        for (Field f : face.getDeclaredFields()) {
            boolean fits = f.getName().equals("NONE") ? Modifier.isPublic(f.getModifiers()) : Modifier.isPrivate(f.getModifiers());
            Check.due(f + " is as visible as it must be", fits, true);
            Check.due(f + " is no static state", Modifier.isStatic(f.getModifiers()) && !Modifier.isFinal(f.getModifiers()), false);
        }
        Constructor<?>[] made = face.getDeclaredConstructors();
        Check.due("one constructor", made.length, 1);
        Check.due("without arguments", made[0].getParameterCount(), 0);
        Check.due("public", Modifier.isPublic(made[0].getModifiers()), true);
    }

    private static void nested() {
        Class<?>[] inside = RenvoiDesk.class.getDeclaredClasses();
        Check.due("some twelve classes at most", inside.length <= 11, true);
        for (Class<?> each : inside) {
            int how = each.getModifiers();
            Check.due(each + " is static, not public", Modifier.isStatic(how) && !Modifier.isPublic(how) && !Modifier.isProtected(how), true);
            int fields = 0;
            for (Field f : each.getDeclaredFields()) {
                boolean fixed = Modifier.isStatic(f.getModifiers());
                fields += fixed ? 0 : 1;
                Check.due(f + " is no static state", fixed && !Modifier.isFinal(f.getModifiers()), false);
            }
            Check.due(each + " has some twenty fields at most", fields <= 20, true);
            for (Method m : each.getDeclaredMethods()) {
                Check.due(m + " has seven parameters at most", m.getParameterCount() <= 7, true);
            }
        }
    }

    private static void source(Path file) throws IOException {
        String text = Files.readString(file);
        for (String word : new String[] {"->", "::", "catch", "finally", "synchronized", "assert ", "package ", "static {",
            "Exact", "Random", "System.out", "System.nano", "System.current", "double", "float", "hashCode", "getMessage"}) {
            Check.due("'" + word + "' in the source", text.contains(word), false);
        }
        int imports = 0;
        for (String line : text.split("\n")) {
            if (line.startsWith("import ")) {
                imports++;
                Check.due(line + " is allowed", line.equals("import java.util.Arrays;")
                        || line.equals("import java.util.NoSuchElementException;"), true);
            }
        }
        Check.due("imports", imports, 2);
        for (char sign : text.toCharArray()) {
            if (sign > 126 || sign < 32 && sign != '\n') {
                Check.due("sign " + (int) sign + " in the source", true, false);
            }
        }
    }
}
