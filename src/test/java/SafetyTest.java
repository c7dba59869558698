import java.lang.reflect.InvocationTargetException;
import java.lang.reflect.Method;
import java.lang.reflect.Modifier;
import java.util.ArrayList;
import java.util.Comparator;
import java.util.List;
import java.util.NoSuchElementException;
import java.util.Random;

/** Any calls with any arguments: nothing but what the document names is thrown, and the same calls answer alike. */
final class SafetyTest {
    private static final Bench t = new Bench();
    private static final int[] ODD_NUMBERS = {Integer.MIN_VALUE, Integer.MIN_VALUE + 1, -1000, -2, -1, 0, 1, 2, 3, 5, 6,
        7, 8, 9, 10, 16, 17, 20, 21, 60, 61, 79, 80, 199, 200, 201, 399, 400, 401, 600, 640, 641, 1 << 30,
        Integer.MAX_VALUE - 1, Integer.MAX_VALUE};
    private static final String[] PARTS = {"coin ", "open", "wheel ", "end ", "again", "so ", " or ", " and ", "not ",
        "like ", "comes", "shares", "place", "knots", "p", "q", "w", "x", "y", "(", ")", ":", ";", "<", "=", ">", ".",
        " ", "\n", "0", "1", "2", "3", "9", "10", "20", "1 2;", "1 3;", "2 3;", "999", "1000", "longest", "a1", "\377",
        "%", "h", "t", "hh", "tt", "coin p open;", "coin q 1 3;", "wheel w 1 2 3;", "end x 1 3;", "end y 2 3;",
        "q(x:y)", "q(x:q(y:again))", "p(p(again:x):p(y:again))", "w(x:y:again)", "q 0;", "q 1;", "w 2;", "so x;"};

    public static void main(String[] args) throws IllegalAccessException {
        List<Method> calls = new ArrayList<>();
        for (Method method : BentPenny.class.getDeclaredMethods()) {
            if (Modifier.isPublic(method.getModifiers())) {
                calls.add(method);
            }
        }
        calls.sort(Comparator.comparing(Method::getName));
        for (int seed = 0; seed < 400; seed++) {
            run(calls, new Random(seed));
        }
        t.close("SafetyTest");
    }

    private static void run(List<Method> calls, Random random) throws IllegalAccessException {
        BentPenny one = new BentPenny();
        BentPenny other = new BentPenny();
        if (random.nextInt(4) > 0) {
            for (BentPenny x : new BentPenny[] {one, other}) {
                Bench.tape(x, Bench.TABLE).table();
                Bench.tape(x, "q(x:w(y:again:q(again:x)))").way();
                Bench.tape(x, "not like x or place>0").sentence();
            }
        }
        for (int call = 0; call < 450; call++) {
            if (random.nextInt(4) == 0) {
                String text = text(random);
                Bench.tape(one, text);
                Bench.tape(other, text);
                call += text.length() / 20 + 3;
            }
            Method method = calls.get(random.nextInt(calls.size()));
            Object[] arguments = new Object[method.getParameterCount()];
            for (int i = 0; i < arguments.length; i++) {
                arguments[i] = number(random);
            }
            String answer = answer(one, method, arguments);
            t.due(method.getName() + " alike", answer.equals(answer(other, method, arguments)) ? 1 : 0, 1);
        }
    }

    private static String text(Random random) {
        StringBuilder text = new StringBuilder();
        int parts = random.nextInt(random.nextInt(10) == 0 ? 200 : 12);
        for (int i = 0; i < parts && text.length() < 600; i++) {
            text.append(PARTS[random.nextInt(PARTS.length)]);
        }
        return text.toString();
    }

    private static int number(Random random) {
        int kind = random.nextInt(10);
        if (kind == 0) {
            return random.nextInt();
        }
        return kind < 4 ? ODD_NUMBERS[random.nextInt(ODD_NUMBERS.length)] : random.nextInt(4);
    }

    private static String answer(BentPenny x, Method method, Object[] arguments) throws IllegalAccessException {
        try {
            return String.valueOf(method.invoke(x, arguments));
        } catch (InvocationTargetException e) {
            Throwable thrown = e.getCause();
            boolean named = method.getExceptionTypes().length == 1 && thrown.getClass() == NoSuchElementException.class;
            boolean own = thrown.getStackTrace()[0].getClassName().equals("BentPenny");
            if (!named || !own) {
                System.out.println(method.getName() + " threw " + thrown);
            }
            t.due("a throw of " + method.getName(), named && own ? 1 : 0, 1);
            return "throws";
        }
    }
}
