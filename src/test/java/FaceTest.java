import java.lang.reflect.Constructor;
import java.lang.reflect.Field;
import java.lang.reflect.Method;
import java.lang.reflect.Modifier;
import java.nio.file.Files;
import java.nio.file.Path;
import java.util.Set;
import java.util.TreeSet;

/** The document's public face, and those rules of LANGUAGE.md that can be seen without understanding the code. */
public final class FaceTest {
    private static final String FACE = "type(int) clear() reads() inputs(int,int) shrinks(int) undo() part(int,int) told(int) uses(int) "
        + "function(int,int) last(int) run() status() cost(int) frames(int) often(int) next(int) shortest(int) comes(int,int) forget() "
        + "fits() keep(int) back(int) count(int) input(int)";
    private static final String CONSTANTS = "BAD=-1 STATE=-2 FULL=-3 NONE=-9 OK=0 LONG=1 NOWHERE=-11 MANY=-12 END=-13";
    private static int wrong = 0;

    private static void check(boolean holds, String what) {
        if (!holds) {
            wrong++;
            System.out.println("not so: " + what);
        }
    }

    public static void main(String[] args) throws Exception {
        Set<String> names = methods();
        constants();
        for (Class<?> inner : OneReturns.class.getDeclaredClasses()) {
            nested(inner, names);
        }
        check(OneReturns.class.getDeclaredClasses().length < 12, "at most twelve classes");
        source(Files.readString(Path.of("src/main/java/OneReturns.java")));
        System.out.println(wrong == 0 ? "the face is as due" : wrong + " faults");
        if (wrong != 0) {
            System.exit(1);
        }
    }

    private static Set<String> methods() {
        Set<String> due = new TreeSet<>(Set.of(FACE.split(" ")));
        Set<String> found = new TreeSet<>();
        Set<String> names = new TreeSet<>();
        for (Method m : OneReturns.class.getDeclaredMethods()) {
            boolean isPrivate = Modifier.isPrivate(m.getModifiers());
            check(isPrivate || Modifier.isPublic(m.getModifiers()), m + " is public or private");
            check(m.getParameterCount() <= 7, m + " has at most seven parameters");
            if (!isPrivate) {
                check(m.getReturnType() == int.class && !Modifier.isStatic(m.getModifiers()), m + " returns an int of an object");
                names.add(m.getName());
                found.add(m.getName() + "(" + "int,int,".substring(0, Math.max(0, 4 * m.getParameterCount() - 1)) + ")");
            }
        }
        check(found.equals(due), "the public methods are the document's: " + found);
        for (Method m : OneReturns.class.getDeclaredMethods()) {
            check(Modifier.isPublic(m.getModifiers()) || !names.contains(m.getName()), m + " has a name of its own");
        }
        Constructor<?>[] constructors = OneReturns.class.getDeclaredConstructors();
        check(constructors.length == 1 && constructors[0].getParameterCount() == 0, "there is one constructor");
        check(Modifier.isFinal(OneReturns.class.getModifiers()) && Modifier.isPublic(OneReturns.class.getModifiers()), "public and final");
        return names;
    }

    private static void constants() throws IllegalAccessException {
        Set<String> found = new TreeSet<>();
        int own = 0;
        for (Field f : OneReturns.class.getDeclaredFields()) {
            int m = f.getModifiers();
            if (Modifier.isPublic(m)) {
                check(Modifier.isStatic(m) && Modifier.isFinal(m), f + " is a constant");
                found.add(f.getName() + "=" + f.getInt(null));
            } else {
                check(Modifier.isPrivate(m), f + " is private");
            }
            own += Modifier.isStatic(m) ? 0 : 1;
        }
        check(found.equals(new TreeSet<>(Set.of(CONSTANTS.split(" ")))), "the constants are the document's: " + found);
        check(own <= 20, "at most twenty fields");
    }

    private static void nested(Class<?> inner, Set<String> names) {
        check(Modifier.isStatic(inner.getModifiers()), inner + " is static");
        check(Modifier.isPrivate(inner.getModifiers()), inner + " is private");
        int own = 0;
        for (Field f : inner.getDeclaredFields()) {
            own += Modifier.isStatic(f.getModifiers()) ? 0 : 1;
            check(!Modifier.isStatic(f.getModifiers()) || Modifier.isFinal(f.getModifiers()), f + " is final if it is static");
        }
        check(own <= 20, inner + " has at most twenty fields");
        for (Method m : inner.getDeclaredMethods()) {
            check(!names.contains(m.getName()), m + " has a name of its own");
            check(m.getParameterCount() <= 7, m + " has at most seven parameters");
        }
    }

    private static void source(String text) {
        for (int i = 0; i < text.length(); i++) {
            check(text.charAt(i) < 127, "a sign of ASCII at " + i);
        }
        String code = text.replaceAll("(?s)/\\*.*?\\*/", "").replaceAll("//[^\n]*", "");
        String[] words = {"throw", "throws", "try", "catch", "synchronized", "assert", "import", "package", "while", "instanceof", "record",
            "System", "Exact", "Thread", "Random"};
        for (String word : words) {
            check(!code.matches("(?s).*\\b" + word + "\\b.*"), "the code is without " + word);
        }
        check(!code.contains("->") && !code.contains("::"), "no lambda and no method reference");
        check(!code.contains(" / "), "no division");
        for (String line : code.split("\n")) {
            if (line.matches(".*\\bnew\\b.*")) {
                check(line.matches("        ( {4})?( {4})?[a-zA-Z]+(\\[i\\])? = new [A-Za-z]+(\\(\\)|\\[[A-Z_]+\\]);"), "objects are made in constructors: " + line);
            }
            if (line.contains(" % ")) {
                check(line.contains("% RECORDED"), "a divisor is a constant: " + line);
            }
        }
        methodsAreShort(code);
    }

    private static void methodsAreShort(String code) {
        String end = "";
        int length = 0;
        for (String line : code.split("\n")) {
            length++;
            if (line.matches(" {4}( {4})?[A-Za-z].*\\) \\{") && !line.matches(" *(if|for|switch)\\b.*")) {
                end = line.replaceAll("[A-Za-z].*", "}");
                length = 1;
            } else if (line.equals(end)) {
                check(length <= 60, "a method has at most sixty lines, not " + length);
                end = "";
            }
        }
    }
}
