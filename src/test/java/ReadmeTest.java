import java.io.IOException;
import java.lang.reflect.InvocationTargetException;
import java.lang.reflect.Method;
import java.lang.reflect.Modifier;
import java.nio.file.Files;
import java.nio.file.Path;
import java.util.ArrayList;
import java.util.List;
import java.util.Set;
import java.util.TreeSet;
import java.util.regex.Matcher;
import java.util.regex.Pattern;

/** README.md tells of every call of the face, and each call that it makes answers what it says. */
public final class ReadmeTest {
    private static final Pattern CALL = Pattern.compile("x\\.(\\w+)\\((.*)\\); +// ([^:]*)(:.*)?");
    private static final Pattern ROW = Pattern.compile("\\| `(\\w+)\\(.*");

    public static void main(String[] args) throws IOException, IllegalAccessException {
        String page = Files.readString(Path.of("README.md"));
        everyCallIsTold(page);
        answersAreAsWritten(page);
        Expect.finish();
    }

    private static void everyCallIsTold(String page) {
        Set<String> due = new TreeSet<>();
        for (Method method : face()) {
            due.add(method.getName());
        }
        Expect.same("calls in the table", namesIn(page, ROW), due.toString());
        Expect.same("calls in the examples", namesIn(page, CALL), due.toString());
    }

    private static String namesIn(String page, Pattern pattern) {
        Set<String> names = new TreeSet<>();
        page.lines().map(pattern::matcher).filter(Matcher::matches).forEach(line -> names.add(line.group(1)));
        return names.toString();
    }

    /** All examples of the page are one run of calls on one object. */
    private static void answersAreAsWritten(String page) throws IllegalAccessException {
        StickerFoundry x = new StickerFoundry();
        for (String line : page.lines().filter(l -> l.startsWith("x.")).toList()) {
            Matcher call = CALL.matcher(line);
            Expect.yes(line + " can be read", call.matches());
            if (call.matches()) {
                Method method = named(call.group(1));
                boolean answers = method.getReturnType() != void.class;
                Expect.same(line, answer(x, method, call.group(2)), answers ? call.group(3) : "null");
            }
        }
    }

    private static List<Method> face() {
        List<Method> face = new ArrayList<>();
        for (Method method : StickerFoundry.class.getDeclaredMethods()) {
            if (Modifier.isPublic(method.getModifiers())) {
                face.add(method);
            }
        }
        return face;
    }

    private static Method named(String name) {
        for (Method method : face()) {
            if (method.getName().equals(name)) {
                return method;
            }
        }
        throw new IllegalArgumentException("the face has no " + name);
    }

    private static String answer(StickerFoundry x, Method method, String words) throws IllegalAccessException {
        try {
            return String.valueOf(method.invoke(x, arguments(method, words)));
        } catch (InvocationTargetException e) {
            return "throws " + e.getCause().getClass().getSimpleName();
        }
    }

    private static Object[] arguments(Method method, String words) {
        Class<?>[] types = method.getParameterTypes();
        String[] parts = words.isEmpty() ? new String[0] : words.split(", ");
        Object[] arguments = new Object[parts.length];
        for (int i = 0; i < parts.length; i++) {
            long number = number(parts[i]);
            arguments[i] = types[i] == int.class ? (Object) (int) number : (Object) number;
        }
        return arguments;
    }

    private static long number(String word) {
        if (word.startsWith("'")) {
            return word.charAt(1);
        }
        return word.equals("StickerFoundry.NONE") ? -1 : Long.decode(word.replace("L", ""));
    }
}
