import java.lang.reflect.Constructor;
import java.lang.reflect.Field;
import java.lang.reflect.Method;
import java.lang.reflect.Modifier;
import java.nio.file.Files;
import java.nio.file.Path;
import java.util.Arrays;
import java.util.HashSet;
import java.util.Set;
import java.util.TreeSet;
import java.util.stream.Collectors;

/** The face of the document, nothing more of it, and what of LANGUAGE.md can be seen from outside. */
public final class FaceTest {
    private static final Class<?> CLASS = CharcoalFromAHearth.class;
    private static final String[] FACE = {
        "int write(int,long)", "int wipe()", "int fault()", "int wood()", "int stands(int,int)",
        "int sorted(int,int)", "int miles(int)", "int way(int,int,int,int,int)", "int going(int,int)",
        "int gathered(int,int,int)", "int fire(int,int,int)", "int unsaid(int)", "int walk(int)",
        "int layer()", "int count(int,int,int)", "int counted(int,int)", "int crumb(int)", "int sweep()",
        "int pour(int)", "int stop(int,int)", "int missed(int,int)", "long share(int,int,boolean)",
        "long chance(int,int,boolean)", "long odds(int,int,boolean)", "int likeliest(int)",
        "long far(int,boolean)", "int lacks(int,int,int)", "int next()", "int twig(int,int,int)",
        "int thins(int)", "int longest()", "int beam(int,int,int,boolean)", "int earliest(int)",
        "int tooOld(int)", "int keep(int)", "int again(int)", "int all(int)",
    };
    private static final String[] CONSTANTS = {"UNKNOWN", "OUTSIDE", "STATE", "FULL", "NONE"};
    private static final int[] VALUES = {-1, -2, -3, -4, -9};
    private static final Checks CHECKS = new Checks();

    public static void main(String[] args) throws Exception {
        theClass();
        theMethods();
        theConstants();
        theClassesInside();
        noExceptions();
        CHECKS.end();
    }

    private static void due(String what, boolean holds) {
        CHECKS.due(what, holds ? 1 : 0, 1);
    }

    private static boolean isPrivate(int modifiers) {
        return Modifier.isPrivate(modifiers);
    }

    private static void theClass() {
        due("public", Modifier.isPublic(CLASS.getModifiers()));
        due("final", Modifier.isFinal(CLASS.getModifiers()));
        due("no package", CLASS.getPackageName().isEmpty());
        Constructor<?>[] constructors = CLASS.getDeclaredConstructors();
        due("one constructor", constructors.length == 1);
        due("without parameters", constructors[0].getParameterCount() == 0);
        due("a public one", Modifier.isPublic(constructors[0].getModifiers()));
    }

    private static void theMethods() {
        Set<String> seen = new TreeSet<>();
        Set<String> publicNames = new HashSet<>();
        Set<String> privateNames = new HashSet<>();
        for (Method method : CLASS.getDeclaredMethods()) {
            due("at most seven parameters: " + method, method.getParameterCount() <= 7);
            if (isPrivate(method.getModifiers()) || method.isSynthetic()) {
                privateNames.add(method.getName());
                continue;
            }
            due("public: " + method, method.getModifiers() == Modifier.PUBLIC);
            due("no exceptions: " + method, method.getExceptionTypes().length == 0);
            publicNames.add(method.getName());
            seen.add(method.getReturnType() + " " + method.getName() + Arrays.stream(method.getParameterTypes())
                .map(Class::getName).collect(Collectors.joining(",", "(", ")")));
        }
        for (String face : FACE) {
            due("there is " + face, seen.remove(face));
        }
        due("no more than the face: " + seen, seen.isEmpty());
        privateNames.retainAll(publicNames);
        due("no private method has the name of a public one: " + privateNames, privateNames.isEmpty());
    }

    private static void theConstants() throws Exception {
        for (int i = 0; i < CONSTANTS.length; i++) {
            Field field = CLASS.getDeclaredField(CONSTANTS[i]);
            due("public static final: " + field, field.getModifiers() == (Modifier.PUBLIC | Modifier.STATIC | Modifier.FINAL));
            due("an int: " + field, field.getType() == int.class);
            CHECKS.due(CONSTANTS[i], field.getInt(null), VALUES[i]);
        }
        for (Field field : CLASS.getDeclaredFields()) {
            boolean told = Arrays.asList(CONSTANTS).contains(field.getName());
            due("private or of the face: " + field, told || isPrivate(field.getModifiers()) || field.isSynthetic());
            due("a constant, if static: " + field,
                !Modifier.isStatic(field.getModifiers()) || Modifier.isFinal(field.getModifiers()));
        }
    }

    private static void theClassesInside() {
        due("some twelve classes", CLASS.getDeclaredClasses().length <= 12);
        for (Class<?> inside : CLASS.getDeclaredClasses()) {
            due("static: " + inside, Modifier.isStatic(inside.getModifiers()));
            due("not public: " + inside, !Modifier.isPublic(inside.getModifiers()) && !Modifier.isProtected(inside.getModifiers()));
        }
    }

    /** .ci/run tells where the source is; without it there is nothing to read here. */
    private static void noExceptions() throws Exception {
        String source = System.getProperty("source");
        if (source == null) {
            return;
        }
        String code = Files.readString(Path.of(source)).replaceAll("(?s)/\\*.*?\\*/|//[^\\n]*", " ");
        for (String word : new String[] {"throw", "throws", "try", "catch", "synchronized", "assert"}) {
            due("no " + word, !code.matches("(?s).*\\b" + word + "\\b.*"));
        }
    }
}
