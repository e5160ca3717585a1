import java.io.IOException;
import java.lang.reflect.Field;
import java.lang.reflect.Method;
import java.lang.reflect.Modifier;
import java.nio.file.Files;
import java.nio.file.Path;
import java.util.ArrayList;
import java.util.List;
import java.util.Set;
import java.util.TreeSet;

/** The document's face and those rules of LANGUAGE.md that can be seen from outside. */
public final class RulesTest {
    private static final String[] FACE = {
        "int feed(int,int,int,int,int)", "int yard(int)", "int law(int)", "int work(int)", "int spots(int)", "int fault()",
        "int undo()", "int told(int)", "int lane(int,int)", "int car(int,int)", "int on(int,int)", "int seconds(int,int)",
        "int would(int,int,int,int,int,int,int,int)", "int ahead(int)", "int frees(int,int)", "int morning(int)",
        "int corner(int)", "boolean goes(int)", "int evening(int,int)", "int sure(int,int,int)", "int leaks(int)",
        "int look(int)", "int fronts(int,int,int,int)", "int pays(int,int,int)", "int spare(int)", "int next(int)",
        "int most(int)", "int days(int,int,int,int)", "int span(int,int,int,int,int,int)", "int image()", "int restore()",
        "int status(int)", "int count(int)"};

    public static void main(String[] args) throws IOException {
        face();
        classes();
        Path source = Path.of(args.length > 0 ? args[0] : "src/main/java/BlockedCars.java");
        text(Files.readAllLines(source));
        Check.end("RulesTest");
    }

    private static void holds(String what, boolean so) {
        Check.due(what, so ? 1 : 0, 1);
    }

    private static void face() {
        Class<?> c = BlockedCars.class;
        holds("public and final", Modifier.isPublic(c.getModifiers()) && Modifier.isFinal(c.getModifiers()));
        Set<String> found = new TreeSet<>();
        for (Method m : c.getDeclaredMethods()) {
            if (Modifier.isPublic(m.getModifiers())) {
                StringBuilder s = new StringBuilder(m.getReturnType() + " " + m.getName() + "(");
                for (Class<?> p : m.getParameterTypes()) {
                    s.append(s.charAt(s.length() - 1) == '(' ? "" : ",").append(p);
                }
                found.add(s.append(")").toString());
                holds(m.getName() + " is no static one", !Modifier.isStatic(m.getModifiers()));
            } else {
                holds(m.getName() + " is private", Modifier.isPrivate(m.getModifiers()));
            }
        }
        for (String due : FACE) {
            holds("the face has " + due, found.remove(due));
        }
        holds("and nothing else: " + found, found.isEmpty());
        holds("one constructor", c.getDeclaredConstructors().length == 1 && c.getConstructors().length == 1);
        for (Field f : c.getDeclaredFields()) {
            boolean isNone = f.getName().equals("NONE") && Modifier.isPublic(f.getModifiers());
            holds(f.getName() + " is private", isNone || Modifier.isPrivate(f.getModifiers()));
        }
    }

    private static void classes() {
        List<Class<?>> all = new ArrayList<>(List.of(BlockedCars.class.getDeclaredClasses()));
        for (Class<?> c : all) {
            holds(c + " is static", Modifier.isStatic(c.getModifiers()));
            holds(c + " is not public", !Modifier.isPublic(c.getModifiers()) && !Modifier.isProtected(c.getModifiers()));
            holds(c + " has no classes inside", c.getDeclaredClasses().length == 0);
        }
        all.add(BlockedCars.class);
        holds("at most twelve classes", all.size() <= 12);
        for (Class<?> c : all) {
            int fields = 0;
            for (Field f : c.getDeclaredFields()) {
                boolean isStatic = Modifier.isStatic(f.getModifiers());
                fields += isStatic ? 0 : 1;
                holds(f + ": static ones are final", !isStatic || Modifier.isFinal(f.getModifiers()));
                holds(f + ": static ones are numbers", !isStatic || f.getType() == int.class || f.getType() == long.class);
            }
            holds(c + ": at most twenty fields", fields <= 20);
            for (Method m : c.getDeclaredMethods()) {
                boolean isFace = Modifier.isPublic(m.getModifiers());
                holds(m + ": at most seven parameters", m.getParameterCount() <= 7 || m.getName().equals("would"));
                holds(m + ": a name of its own", isFace || !isFaceName(m.getName()));
            }
        }
    }

    private static boolean isFaceName(String name) {
        for (String due : FACE) {
            if (due.contains(" " + name + "(")) {
                return true;
            }
        }
        return false;
    }

    private static void text(List<String> lines) {
        String[] never = {"->", "::", "catch", "finally", "synchronized", "assert ", "System.out", "System.nanoTime", "Random",
            "double", "float", "Exact(", "equals(", "hashCode", "getMessage", " + \"", "\" + ", "var ", "Thread"};
        String indent = "";
        int from = 0;
        for (int i = 0; i < lines.size(); i++) {
            String line = lines.get(i);
            String where = "line " + (i + 1);
            for (String word : never) {
                holds(where + " without " + word, !line.contains(word));
            }
            holds(where + " has signs up to 127", line.chars().allMatch(c -> c < 128));
            holds(where + " imports what is listed", !line.startsWith("import") || line.equals("import java.util.Arrays;")
                    || line.equals("import java.util.NoSuchElementException;"));
            String inner = line.strip();
            if (inner.endsWith("{") && inner.contains(") ") && (line.startsWith("    ") && !line.startsWith("     ")
                    || line.startsWith("        ") && !line.startsWith("         ")) && !inner.startsWith("for")
                    && !inner.startsWith("if") && !inner.startsWith("while") && !inner.startsWith("switch") && !inner.startsWith("}")) {
                from = i;
                indent = line.substring(0, line.length() - inner.length());
            }
            if (line.equals(indent + "}") && from > 0) {
                holds(where + ": the method has at most sixty lines", i - from <= 60);
                from = 0;
            }
        }
    }
}
