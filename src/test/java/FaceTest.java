import com.sun.management.ThreadMXBean;
import java.lang.management.ManagementFactory;
import java.lang.reflect.Constructor;
import java.lang.reflect.Field;
import java.lang.reflect.Method;
import java.lang.reflect.Modifier;
import java.nio.file.Files;
import java.nio.file.Path;
import java.util.Arrays;
import java.util.HashSet;
import java.util.List;
import java.util.Set;
import java.util.TreeSet;
import java.util.regex.Pattern;
import java.util.stream.Collectors;

/** The face of the document, nothing more of it, and what of LANGUAGE.md can be seen from outside. */
public final class FaceTest {
    private static final Class<?> CLASS = CharcoalFromAHearth.class;
    private static final String[] FACE = {
        "int write(int,long)", "int wipe()", "int fault()", "int wood()", "int stands(int,int)",
        "int sorted(int,int)", "int miles(int)", "int way(int,int,int,int,int)", "int going(int,int)",
        "int gathered(int,int,int)", "int fire(int,int,int)", "int unsaid(int)", "int walk(int)",
        "int layer()", "int count(int,int,int)", "int counted(int,int)", "int crumb(int)", "int sweep()",
        "int pour(int)", "int stop(int,int)", "int missed(int,int)", "long share(int,int,boolean)",
        "long chance(int,int,boolean)", "long odds(int,int,boolean)", "int likeliest(int)",
        "long far(int,boolean)", "int lacks(int,int,int)", "int next()", "int twig(int,int,int)",
        "int thins(int)", "int longest()", "int beam(int,int,int,boolean)", "int earliest(int)",
        "int tooOld(int)", "int keep(int)", "int again(int)", "int all(int)",
    };
    private static final String[] CONSTANTS = {"UNKNOWN", "OUTSIDE", "STATE", "FULL", "NONE"};
    private static final int[] VALUES = {-1, -2, -3, -4, -9};
    private static final Checks CHECKS = new Checks();

    public static void main(String[] args) throws Exception {
        theClass();
        theMethods();
        theConstants();
        theClassesInside();
        noExceptions();
        theFaceOfTheDocument();
        noCallMakesAnObject();
        CHECKS.end();
    }

    private static void due(String what, boolean holds) {
        CHECKS.due(what, holds ? 1 : 0, 1);
    }

    private static boolean isPrivate(int modifiers) {
        return Modifier.isPrivate(modifiers);
    }

    private static void theClass() {
        due("public", Modifier.isPublic(CLASS.getModifiers()));
        due("final", Modifier.isFinal(CLASS.getModifiers()));
        due("no package", CLASS.getPackageName().isEmpty());
        Constructor<?>[] constructors = CLASS.getDeclaredConstructors();
        due("one constructor", constructors.length == 1);
        due("without parameters", constructors[0].getParameterCount() == 0);
        due("a public one", Modifier.isPublic(constructors[0].getModifiers()));
    }

    private static void theMethods() {
        Set<String> seen = new TreeSet<>();
        Set<String> publicNames = new HashSet<>();
        Set<String> privateNames = new HashSet<>();
        for (Method method : CLASS.getDeclaredMethods()) {
            due("at most seven parameters: " + method, method.getParameterCount() <= 7);
            if (isPrivate(method.getModifiers()) || method.isSynthetic()) {
                privateNames.add(method.getName());
                continue;
            }
            due("public: " + method, method.getModifiers() == Modifier.PUBLIC);
            due("no exceptions: " + method, method.getExceptionTypes().length == 0);
            publicNames.add(method.getName());
            seen.add(method.getReturnType() + " " + method.getName() + Arrays.stream(method.getParameterTypes())
                .map(Class::getName).collect(Collectors.joining(",", "(", ")")));
        }
        for (String face : FACE) {
            due("there is " + face, seen.remove(face));
        }
        due("no more than the face: " + seen, seen.isEmpty());
        privateNames.retainAll(publicNames);
        due("no private method has the name of a public one: " + privateNames, privateNames.isEmpty());
    }

    private static void theConstants() throws Exception {
        for (int i = 0; i < CONSTANTS.length; i++) {
            Field field = CLASS.getDeclaredField(CONSTANTS[i]);
            due("public static final: " + field, field.getModifiers() == (Modifier.PUBLIC | Modifier.STATIC | Modifier.FINAL));
            due("an int: " + field, field.getType() == int.class);
            CHECKS.due(CONSTANTS[i], field.getInt(null), VALUES[i]);
        }
        for (Field field : CLASS.getDeclaredFields()) {
            boolean told = Arrays.asList(CONSTANTS).contains(field.getName());
            due("private or of the face: " + field, told || isPrivate(field.getModifiers()) || field.isSynthetic());
            due("a constant, if static: " + field,
                !Modifier.isStatic(field.getModifiers()) || Modifier.isFinal(field.getModifiers()));
        }
    }

    private static void theClassesInside() {
        due("some twelve classes", CLASS.getDeclaredClasses().length <= 12);
        for (Class<?> inside : CLASS.getDeclaredClasses()) {
            due("static: " + inside, Modifier.isStatic(inside.getModifiers()));
            due("not public: " + inside, !Modifier.isPublic(inside.getModifiers()) && !Modifier.isProtected(inside.getModifiers()));
        }
    }

    /** .ci/run tells where the source and the document are; without it there is nothing to read here. */
    private static String read(String property) throws Exception {
        String path = System.getProperty(property);
        return path == null ? "" : Files.readString(Path.of(path));
    }

    private static void noExceptions() throws Exception {
        String code = read("source").replaceAll("(?s)/\\*.*?\\*/|//[^\\n]*", " ");
        for (String word : new String[] {"throw", "throws", "try", "catch", "synchronized", "assert"}) {
            due("no " + word, !code.matches("(?s).*\\b" + word + "\\b.*"));
        }
    }

    private static List<String> all(String regex, String text) {
        return Pattern.compile(regex).matcher(text).results().map(found -> found.group(1)).toList();
    }

    /** The lines of "The public face" stand in the source, in their order and no others, and so do the groups' names. */
    private static void theFaceOfTheDocument() throws Exception {
        String document = read("doc");
        String source = read("source");
        if (document.isEmpty() || source.isEmpty()) {
            return;
        }
        String face = document.replaceFirst("(?s).*\n## The public face\n.*?```java\n(.*?)```.*", "$1");
        List<String> asked = all("(?m)^ *(public .*?)(?: \\{|;)$", face);
        List<String> written = all("(?m)^ {0,4}(public .*?)(?: \\{|;)$", source);
        due("the face is told", asked.size() == 40);
        due("the source's face is the document's: " + written, written.equals(asked));
        for (String line : all("(?m)^(Ahead of the calls .*)\\.$", document)) {
            String first = all("`([a-zA-Z]+)`", line).get(0);
            String last = line.replaceFirst(".*`([a-zA-Z]+)`.*", "$1");
            String heading = "// " + line.substring(line.indexOf("---- "));
            int at = source.indexOf(heading);
            int next = source.indexOf("// ----", at + 1);
            int from = source.indexOf(" " + first + "(");
            int to = source.indexOf(" " + last + "(");
            due(heading + " stands ahead of its calls", at >= 0 && at < from && from <= to && (next < 0 || to < next));
        }
    }

    /** What the thread makes in 2100 rounds of all calls stays far below one object a round; 400 calls an object. */
    private static void noCallMakesAnObject() {
        if (!(ManagementFactory.getThreadMXBean() instanceof ThreadMXBean threads)
            || !threads.isThreadAllocatedMemorySupported() || !threads.isThreadAllocatedMemoryEnabled()) {
            return;
        }
        CharcoalFromAHearth[] objects = new CharcoalFromAHearth[301];
        Arrays.setAll(objects, at -> Samples.half());
        long me = Thread.currentThread().getId();
        long sum = rounds(objects[300], 7);
        long made = threads.getThreadAllocatedBytes(me);
        for (int at = 0; at < 300; at++) {
            sum += rounds(objects[at], 7);
        }
        made = threads.getThreadAllocatedBytes(me) - made;
        due("2100 rounds of calls (" + sum + ") made " + made + " bytes: none", made < 2100);
    }

    private static long rounds(CharcoalFromAHearth x, int rounds) {
        long sum = 0;
        for (int round = 0; round < rounds; round++) {
            int layer = round % 6;
            int way = round % 4;
            sum += x.wipe() + x.write(8, 0x5330303953313335L) + x.write(6, 0x423034413032L) + x.fault() + x.wood();
            sum += x.stands(0, 0) + x.sorted(0, 0) + x.miles(0) + x.way(way, 9, round % 9, layer, way);
            sum += x.going(way, 0) + x.gathered(way, 0, 0) + x.fire(way, 0, 0) + x.unsaid(way) + x.walk(way);
            sum += x.sweep() + x.crumb(0) + x.crumb(6) + x.crumb(1) + x.pour(layer) + x.stop(2, 1) + x.missed(0, 1);
            sum += x.count(layer, 1, layer) + x.counted(layer, 1) + x.share(layer, 1, true) + x.chance(layer, way, true);
            sum += x.odds(layer, way, true) + x.likeliest(layer) + x.far(layer, true) + x.lacks(layer, way, 2) + x.next();
            sum += x.again(0) + x.layer() + x.twig(layer, 9, 9) + x.thins(layer) + x.longest() + x.beam(layer, 9, 9, true);
            sum += x.earliest(layer) + x.tooOld(0) + x.keep(1) + x.again(1) + x.all(5) + x.all(9) + x.stands(6, 0);
        }
        return sum;
    }
}
