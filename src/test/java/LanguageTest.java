import java.io.IOException;
import java.lang.reflect.Constructor;
import java.lang.reflect.Field;
import java.lang.reflect.Member;
import java.lang.reflect.Method;
import java.lang.reflect.Modifier;
import java.nio.file.Files;
import java.nio.file.Path;
import java.util.ArrayList;
import java.util.Arrays;
import java.util.List;
import java.util.TreeSet;
import java.util.regex.Matcher;
import java.util.regex.Pattern;

/** The face of the document, and what of the LANGUAGE page a look at the source and the classes can tell. */
public final class LanguageTest {
    private static final String SOURCE = "src/main/java/ShoutGroups.java";
    private static final String FACE = "account() accountWith(int,int) best(int) carryOut() change(int,int,int) "
            + "cheapest(int) costOfChange(int,int,int) costOfReading(int,int) count(int) fault() loudest(int) "
            + "ofNote(int,int) ofReader(int,int) onShelf(int,int,int) put(long) putBack(int,int) read(int,int) recall(int) "
            + "restore(int) save(int) set(int,int) undo() wipe()";
    private static final String CONSTANTS = "BAD_TEXT=-3 BAD_VALUE=-2 BLANK=0 FORGET=3 GROUPED=2 NAMED=1 NAMES=0 NONE=-6 "
            + "NOT_POSSIBLE=-5 NO_SUCH=-1 OWNED=3 ROOM=2 SIZE=1 TOO_MANY=-4";
    private static final String[] NOT_ALLOWED = {"throw", "throws", "try", "catch", "finally", "synchronized", "assert",
        "volatile", "package", "float", "Object", "Exception", "equals", "hashCode", "toString", "Exact", "Random",
        "System\\s*\\.\\s*(?!arraycopy)", "->", "::", "@"};
    private static final Check check = new Check();

    public static void main(String[] args) throws IOException, IllegalAccessException {
        face();
        inside();
        words(Files.readString(Path.of(SOURCE)));
        check.end();
    }

    private static void face() throws IllegalAccessException {
        TreeSet<String> methods = new TreeSet<>();
        TreeSet<String> constants = new TreeSet<>();
        for (Method method : ShoutGroups.class.getDeclaredMethods()) {
            if (Modifier.isPublic(method.getModifiers())) {
                String types = Arrays.toString(method.getParameterTypes()).replaceAll("[\\[\\] ]", "");
                methods.add(method.getName() + "(" + types + ")");
                check.due(method + " returns", method.getReturnType().getName(), "int");
                check.due(method + " is static", Modifier.isStatic(method.getModifiers()) ? 1 : 0, 0);
            } else {
                check.due(method + " is private", Modifier.isPrivate(method.getModifiers()) ? 1 : 0, 1);
            }
        }
        for (Field field : ShoutGroups.class.getDeclaredFields()) {
            if (Modifier.isPublic(field.getModifiers())) {
                constants.add(field.getName() + "=" + field.getInt(null));
            } else {
                check.due(field + " is private", Modifier.isPrivate(field.getModifiers()) ? 1 : 0, 1);
            }
        }
        check.due("methods", String.join(" ", methods), FACE);
        check.due("constants", String.join(" ", constants), CONSTANTS);
        Constructor<?>[] constructors = ShoutGroups.class.getDeclaredConstructors();
        check.due("constructors", constructors.length, 1);
        check.due("its parameters", constructors[0].getParameterCount(), 0);
        check.due("it is public", Modifier.isPublic(constructors[0].getModifiers()) ? 1 : 0, 1);
        check.due("the class", Modifier.toString(ShoutGroups.class.getModifiers()), "public final");
    }

    private static void inside() {
        List<Class<?>> classes = new ArrayList<>(List.of(ShoutGroups.class.getDeclaredClasses()));
        check.due("more than twelve classes", classes.size() + 1 > 12 ? 1 : 0, 0);
        for (Class<?> inner : classes) {
            check.due(inner + " is private, static, final", Modifier.toString(inner.getModifiers()), "private static final");
            check.due(inner + " has classes", inner.getDeclaredClasses().length, 0);
        }
        classes.add(ShoutGroups.class);
        TreeSet<String> publicNames = new TreeSet<>();
        for (String method : FACE.split(" ")) {
            publicNames.add(method.substring(0, method.indexOf('(')));
        }
        for (Class<?> each : classes) {
            int fields = 0;
            for (Field field : each.getDeclaredFields()) {
                boolean isStatic = Modifier.isStatic(field.getModifiers());
                fields += isStatic ? 0 : 1;
                check.due(field + " is static and not final",
                        isStatic && !Modifier.isFinal(field.getModifiers()) ? 1 : 0, 0);
            }
            check.due("more than twenty fields in " + each, fields > 20 ? 1 : 0, 0);
            for (Constructor<?> constructor : each.getDeclaredConstructors()) {
                handsOutNothing(constructor);
            }
            for (Method method : each.getDeclaredMethods()) {
                check.due("more than seven parameters: " + method, method.getParameterCount() > 7 ? 1 : 0, 0);
                check.due("an own method with a public one's name: " + method, isOwn(method)
                        && publicNames.contains(method.getName()) ? 1 : 0, 0);
                check.due("made by the compiler: " + method, method.isSynthetic() ? 1 : 0, 0);
            }
        }
    }

    /** Rule 12: what a constructor is given can't be a part of an object that is still being made, if it is a number. */
    private static void handsOutNothing(Constructor<?> constructor) {
        for (Class<?> type : constructor.getParameterTypes()) {
            check.due(constructor + " is given an object", type.isPrimitive() ? 0 : 1, 0);
        }
    }

    private static boolean isOwn(Member member) {
        return !Modifier.isPublic(member.getModifiers());
    }

    private static void words(String source) {
        String code = source.replaceAll("/\\*[\\s\\S]*?\\*/", "").replaceAll("//[^\n]*", "");
        for (String word : NOT_ALLOWED) {
            Pattern pattern = Pattern.compile(word.matches("\\w+") ? "\\b\\w*" + word + "\\b" : word);
            Matcher found = pattern.matcher(code);
            check.due("'" + word + "' in the source", found.find() ? 1 : 0, 0);
        }
        Matcher imports = Pattern.compile("import [^;]*;").matcher(code);
        while (imports.find()) {
            check.due("import", imports.group(), "import java.util.Arrays;");
        }
        Matcher arrays = Pattern.compile("Arrays\\.(\\w+)").matcher(code);
        while (arrays.find()) {
            check.due("Arrays", arrays.group(1).matches("fill|Arrays|copyOf|copyOfRange") ? 1 : 0, 1);
        }
        for (int i = 0; i < source.length(); i++) {
            if (source.charAt(i) > 126) {
                check.due("a sign beyond 126", source.charAt(i), 0);
            }
        }
    }
}
