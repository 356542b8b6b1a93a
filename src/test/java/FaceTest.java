import java.io.IOException;
import java.lang.reflect.Constructor;
import java.lang.reflect.Field;
import java.lang.reflect.Member;
import java.lang.reflect.Method;
import java.lang.reflect.Modifier;
import java.nio.file.Files;
import java.nio.file.Path;
import java.util.List;
import java.util.Set;
import java.util.TreeSet;

/** The public face is the document's, and the file keeps to what LANGUAGE.md says of the words in it. */
public final class FaceTest {
    private static final String BAD_INDEX = "IndexOutOfBoundsException ";
    private static final String BAD_OPERATION = "UnsupportedOperationException ";
    private static final List<String> FACE = List.of(
        "boolean stickers(int )", "boolean type(long int )", "boolean cut(int )",
        "int turn() IllegalArgumentException " + BAD_INDEX + "IllegalStateException " + BAD_OPERATION,
        "int turns()", "int image(int int ) " + BAD_INDEX, "void move(int ) " + BAD_INDEX,
        "void swap(int int ) " + BAD_INDEX, "void reset()", "int place(int ) " + BAD_INDEX, "long order()",
        "int orbit(int ) " + BAD_INDEX, "boolean inOrbit(int int ) " + BAD_INDEX, "boolean reachable()",
        "long rank() IllegalStateException ", "void unrank(long ) NoSuchElementException ",
        "int block(int int ) " + BAD_INDEX, "int diameter() " + BAD_OPERATION, "int atDistance(int ) " + BAD_OPERATION,
        "int solve() " + BAD_OPERATION + "IllegalStateException ", "int solution(int )",
        "int within(int ) IllegalArgumentException ", "int write(int ) " + BAD_INDEX, "int character(int )");
    private static final List<String> REFUSED = List.of("->", "::", "Exact(", "finally", "synchronized", "assert ",
        "try ", "instanceof", "System.out", "HashMap", "float", "double", "package ", "static {");

    public static void main(String[] args) throws IOException {
        face();
        hiddenNames();
        source(Files.readString(Path.of("src/main/java/StickerFoundry.java")));
        Expect.finish();
    }

    private static void face() {
        Class<?> face = StickerFoundry.class;
        Expect.yes("public", Modifier.isPublic(face.getModifiers()));
        Expect.yes("final", Modifier.isFinal(face.getModifiers()));
        Set<String> shown = new TreeSet<>();
        for (Method method : face.getDeclaredMethods()) {
            if (isShown(method)) {
                shown.add(told(method));
            }
        }
        Expect.same("methods", shown.toString(), new TreeSet<>(FACE).toString());
        Constructor<?>[] constructors = face.getDeclaredConstructors();
        Expect.same("constructors", constructors.length, 1);
        Expect.yes("public constructor", Modifier.isPublic(constructors[0].getModifiers()));
        Expect.same("its parameters", constructors[0].getParameterCount(), 0);
        for (Field field : face.getDeclaredFields()) {
            Expect.same("field " + field.getName(), isShown(field) ? 1 : 0, field.getName().equals("NONE") ? 1 : 0);
        }
    }

    private static boolean isShown(Member member) {
        return !Modifier.isPrivate(member.getModifiers());
    }

    private static String told(Method method) {
        StringBuilder told = new StringBuilder(method.getReturnType() + " " + method.getName() + "(");
        for (Class<?> parameter : method.getParameterTypes()) {
            told.append(parameter).append(' ');
        }
        told.append(method.getExceptionTypes().length == 0 ? ")" : ") ");
        for (Class<?> exception : method.getExceptionTypes()) {
            told.append(exception.getSimpleName()).append(' ');
        }
        return told.toString();
    }

    /** No method that is not of the face bears the name of one that is. */
    private static void hiddenNames() {
        for (Method method : StickerFoundry.class.getDeclaredMethods()) {
            if (!isShown(method)) {
                Expect.no(method.getName(), FACE.stream().anyMatch(m -> m.contains(" " + method.getName() + "(")));
            }
        }
        for (Class<?> inside : StickerFoundry.class.getDeclaredClasses()) {
            Expect.yes(inside.getName(), Modifier.isStatic(inside.getModifiers()));
            Expect.yes(inside.getName(), inside.getDeclaredFields().length <= 20);
            for (Field field : inside.getDeclaredFields()) {
                int kind = field.getModifiers();
                Expect.yes(field.getName(), !Modifier.isStatic(kind) || Modifier.isFinal(kind));
            }
        }
    }

    private static void source(String source) {
        for (String word : REFUSED) {
            Expect.no("it has " + word, source.contains(word));
        }
        int methodBegins = 0;
        String[] lines = source.split("\n");
        for (int i = 0; i < lines.length; i++) {
            String line = lines[i];
            Expect.yes("line " + (i + 1) + " is short", line.length() <= 120);
            boolean imported = line.equals("import java.util.Arrays;") || line.equals("import java.util.NoSuchElementException;");
            Expect.yes("line " + (i + 1), imported || !line.startsWith("import"));
            if (line.isEmpty()) {
                methodBegins = i;
            }
            Expect.yes("a method ends before line " + (i + 1), i - methodBegins <= 60);
        }
    }
}
