import java.io.BufferedReader;
import java.io.IOException;
import java.lang.reflect.InvocationTargetException;
import java.lang.reflect.Method;
import java.lang.reflect.Modifier;
import java.nio.file.Files;
import java.nio.file.Path;
import java.util.HashMap;
import java.util.Map;

/**
 * Runs of calls with the answers that a second program (tools/model.py, another reading of the document, by
 * brute force) gave. A line is "new", or a call and behind = its answer: "side 0 1 = -1", "luck 0 0 0 = throws".
 */
final class RecordedRunsTest {
    private static final Bench t = new Bench();

    public static void main(String[] args) throws IOException, IllegalAccessException {
        Path file = Path.of(args.length > 0 ? args[0] : "src/test/recorded/runs.txt");
        Map<String, Method> calls = calls();
        BentPenny x = null;
        int number = 0;
        try (BufferedReader lines = Files.newBufferedReader(file)) {
            for (String line = lines.readLine(); line != null; line = lines.readLine()) {
                number++;
                if (line.equals("new")) {
                    x = new BentPenny();
                } else {
                    String[] sides = line.split(" = ");
                    String got = answer(x, calls, sides[0].split(" "));
                    t.due("line " + number + ": " + line + ", answered " + got + ":", got.equals(sides[1]) ? 1 : 0, 1);
                }
            }
        }
        t.close("RecordedRunsTest");
    }

    private static Map<String, Method> calls() {
        Map<String, Method> calls = new HashMap<>();
        for (Method method : BentPenny.class.getDeclaredMethods()) {
            if (Modifier.isPublic(method.getModifiers())) {
                calls.put(method.getName(), method);
            }
        }
        return calls;
    }

    private static String answer(BentPenny x, Map<String, Method> calls, String[] words) throws IllegalAccessException {
        Object[] arguments = new Object[words.length - 1];
        for (int i = 0; i < arguments.length; i++) {
            arguments[i] = Integer.valueOf(words[i + 1]);
        }
        try {
            Object answer = calls.get(words[0]).invoke(x, arguments);
            if (answer instanceof Boolean) {
                return (Boolean) answer ? "1" : "0";
            }
            return String.valueOf(answer);
        } catch (InvocationTargetException e) {
            boolean due = e.getCause().getClass() == java.util.NoSuchElementException.class;
            return due ? "throws" : String.valueOf(e.getCause());
        }
    }
}
