import java.io.IOException;
import java.lang.reflect.Field;
import java.lang.reflect.Method;
import java.lang.reflect.Modifier;
import java.nio.file.Files;
import java.nio.file.Path;
import java.util.HashSet;
import java.util.List;
import java.util.Set;
import java.util.TreeSet;
import java.util.regex.Matcher;
import java.util.regex.Pattern;

/** The face is the document's, and the file keeps to what of ../shared/LANGUAGE.md can be seen from outside. */
final class FaceTest {
    private static final Bench t = new Bench();
    private static final Pattern FACE =
            Pattern.compile("    public (int|long|boolean) (\\w+)\\((.*)\\)( throws NoSuchElementException)?;");

    public static void main(String[] args) throws IOException {
        face();
        members();
        source();
        t.close("FaceTest");
    }

    private static void holds(String what, boolean fine) {
        t.due(what, fine ? 1 : 0, 1);
    }

    private static void face() throws IOException {
        Set<String> due = new TreeSet<>();
        for (String line : Files.readAllLines(Path.of("../shared/DOC.md"))) {
            Matcher face = FACE.matcher(line);
            if (face.matches()) {
                String types = face.group(3).replaceAll(" \\w+(,|$)", "$1").replace(" ", "");
                due.add(face.group(1) + " " + face.group(2) + "(" + types + ")" + (face.group(4) == null ? "" : "!"));
            }
        }
        Set<String> got = new TreeSet<>();
        for (Method method : BentPenny.class.getDeclaredMethods()) {
            if (!Modifier.isPrivate(method.getModifiers())) {
                StringBuilder types = new StringBuilder();
                for (Class<?> type : method.getParameterTypes()) {
                    types.append(types.length() == 0 ? "" : ",").append(type.getName());
                }
                got.add(method.getReturnType().getName() + " " + method.getName() + "(" + types + ")"
                        + (method.getExceptionTypes().length == 0 ? "" : "!"));
                holds(method.getName() + " is public", Modifier.isPublic(method.getModifiers()));
            }
        }
        t.due("methods of the document", due.size(), 48);
        holds("the face " + got + " is " + due, got.equals(due));
        t.due("constructors", BentPenny.class.getDeclaredConstructors().length, 1);
        holds("a public constructor", Modifier.isPublic(BentPenny.class.getDeclaredConstructors()[0].getModifiers()));
        int modifiers = BentPenny.class.getModifiers();
        holds("public and final", Modifier.isPublic(modifiers) && Modifier.isFinal(modifiers));
    }

    private static void members() {
        Set<String> face = new HashSet<>();
        for (Method method : BentPenny.class.getDeclaredMethods()) {
            if (Modifier.isPublic(method.getModifiers())) {
                face.add(method.getName());
            }
        }
        for (Field field : BentPenny.class.getDeclaredFields()) {
            boolean hidden = Modifier.isPrivate(field.getModifiers());
            holds("field " + field.getName(), hidden || field.getName().equals("NONE"));
        }
        Class<?>[] inner = BentPenny.class.getDeclaredClasses();
        holds("some twelve classes", inner.length < 12);
        membersOf(BentPenny.class, face);
        for (Class<?> each : inner) {
            int modifiers = each.getModifiers();
            holds(each + " is static", Modifier.isStatic(modifiers));
            holds(each + " is not seen", !Modifier.isPublic(modifiers) && !Modifier.isProtected(modifiers));
            membersOf(each, face);
        }
    }

    private static void membersOf(Class<?> of, Set<String> face) {
        int own = 0;
        for (Field field : of.getDeclaredFields()) {
            boolean constant = Modifier.isStatic(field.getModifiers());
            own += constant ? 0 : 1;
            holds(of + "." + field.getName() + " is final", !constant || Modifier.isFinal(field.getModifiers()));
        }
        holds(of + " has some twenty fields", own <= 20);
        for (Method method : of.getDeclaredMethods()) {
            boolean seen = Modifier.isPublic(method.getModifiers());
            holds(of + "." + method.getName() + " has its own name", seen || !face.contains(method.getName()));
            holds(of + "." + method.getName() + " has seven parameters at most", method.getParameterCount() <= 7);
        }
    }

    private static void source() throws IOException {
        List<String> lines = Files.readAllLines(Path.of("src/main/java/BentPenny.java"));
        int begin = 0;
        String close = "";
        for (int i = 0; i < lines.size(); i++) {
            String line = lines.get(i);
            if (line.matches(" {4,8}(public|private) .*\\) (throws \\w+ )?\\{")) {
                begin = i;
                close = line.replaceFirst("\\S.*", "") + "}";
            }
            if (line.equals(close)) {
                holds("line " + i + ": methods are short", i - begin < 60);
                close = "";
            }
            holds("line " + i + ": import", !line.startsWith("import ") || line.equals("import java.util.NoSuchElementException;"));
            for (String word : new String[] {"->", "::", "Exact", "try {", "catch", "finally", "synchronized", "assert ",
                "instanceof", "System.", "Math.random", "Object", "double", "float", "Integer", "record ", "package "}) {
                holds("line " + i + " has no " + word, !line.contains(word));
            }
            boolean makes = line.contains("new ") && !line.contains("throw new NoSuchElementException();");
            holds("line " + i + " makes a field alone", !makes || line.matches(" +[\\w\\[\\]]+ = new .*;"));
        }
    }
}
