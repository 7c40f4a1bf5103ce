import com.sun.management.ThreadMXBean;
import java.lang.management.ManagementFactory;
import java.lang.reflect.Constructor;
import java.lang.reflect.Field;
import java.lang.reflect.Method;
import java.lang.reflect.Modifier;
import java.nio.file.Files;
import java.nio.file.Path;
import java.util.ArrayList;
import java.util.List;
import java.util.Set;
import java.util.TreeSet;
import java.util.regex.Matcher;
import java.util.regex.Pattern;

/** The public face of the document, and those rules of LANGUAGE.md that can be seen from the class and its text. */
public final class FaceTest {
    private static final Set<String> CONSTANTS = Set.of("NONE = -1", "FULL = -2", "STATE = -3", "NO_WAY = -4");
    private static final Set<String> METHODS = Set.of("knot 2", "road 4", "bar 3", "way 2", "fees 2", "drive 0",
        "sight 4", "drop 1", "prices 2", "spot 3", "off 3", "cost 1", "laid 2", "check 1", "list 1", "sure 2",
        "toll 1", "speed 2", "against 1", "count 1");
    private static final List<String> NEVER = List.of("\\bthrow\\b", "\\bthrows\\b", "\\btry\\b", "\\bcatch\\b",
        "\\bsynchronized\\b", "\\bassert\\b", "\\bimport\\b", "\\bpackage\\b", "->", "::", "Exact\\b", "\\bSystem\\.",
        "\\bhashCode\\b", "\\btoString\\b", "static\\s*\\{", "\\bRandom\\b", "\\bThread\\b");
    private static final int MOST_LINES = 60;
    private static final int MOST_PARAMETERS = 7;
    private static final int MOST_FIELDS = 20;
    /** Far under the room that all calls of a run share, 7.3 million fields and elements. */
    private static final long MOST_BYTES_OF_A_RUN = 200000;

    private static final List<String> faults = new ArrayList<>();

    private static void must(boolean holds, String what) {
        if (!holds) {
            faults.add(what);
        }
    }

    public static void main(String[] args) throws Exception {
        faceIsTheDocuments();
        classesInsideKeepTheRules();
        String text = Files.readString(Path.of("src/main/java/RoadTrace.java"));
        textHasTheFace(text, Files.readString(Path.of("../shared/DOC.md")));
        textKeepsTheRules(text);
        runsMakeLittle();
        for (String fault : faults) {
            System.out.println(fault);
        }
        System.out.println(faults.isEmpty() ? "the face is as due" : faults.size() + " faults");
        if (!faults.isEmpty()) {
            System.exit(1);
        }
    }

    private static void faceIsTheDocuments() throws IllegalAccessException {
        Class<?> desk = RoadTrace.class;
        must(Modifier.isPublic(desk.getModifiers()) && Modifier.isFinal(desk.getModifiers()), "RoadTrace: public final");
        Constructor<?>[] constructors = desk.getDeclaredConstructors();
        must(constructors.length == 1 && constructors[0].getParameterCount() == 0
            && Modifier.isPublic(constructors[0].getModifiers()), "RoadTrace: one public constructor");
        Set<String> methods = new TreeSet<>();
        Set<String> names = new TreeSet<>();
        for (Method method : desk.getDeclaredMethods()) {
            if (!Modifier.isPrivate(method.getModifiers())) {
                must(Modifier.isPublic(method.getModifiers()) && !Modifier.isStatic(method.getModifiers())
                    && method.getReturnType() == int.class, "public int: " + method);
                for (Class<?> parameter : method.getParameterTypes()) {
                    must(parameter == int.class, "takes int alone: " + method);
                }
                must(method.getExceptionTypes().length == 0, "throws nothing: " + method);
                methods.add(method.getName() + " " + method.getParameterCount());
                names.add(method.getName());
            }
        }
        must(methods.equals(new TreeSet<>(METHODS)), "methods: " + methods);
        for (Method method : desk.getDeclaredMethods()) {
            must(!Modifier.isPrivate(method.getModifiers()) || !names.contains(method.getName()),
                "a private method has a public one's name: " + method);
        }
        Set<String> constants = new TreeSet<>();
        for (Field field : desk.getDeclaredFields()) {
            if (!Modifier.isPrivate(field.getModifiers())) {
                must(Modifier.isPublic(field.getModifiers()) && Modifier.isStatic(field.getModifiers())
                    && Modifier.isFinal(field.getModifiers()) && field.getType() == int.class, "a constant: " + field);
                constants.add(field.getName() + " = " + field.get(null));
            }
        }
        must(constants.equals(new TreeSet<>(CONSTANTS)), "constants: " + constants);
    }

    /** Word for word, so that the names of parameters are the document's, too. */
    private static void textHasTheFace(String text, String document) {
        Matcher face = Pattern.compile("(?s)```java\n(.*?)```").matcher(document);
        String[] lines = face.find() ? face.group(1).split("\n") : new String[0];
        int members = 0;
        for (String line : lines) {
            String due = line.endsWith(");") ? line.substring(0, line.length() - 1) + " {" : line;
            must(text.contains(due + "\n"), "the document's face has: " + due);
            members += line.endsWith(";") ? 1 : 0;
        }
        must(members == METHODS.size() + 2, "members of the document's face: " + members);
    }

    private static void classesInsideKeepTheRules() {
        List<Class<?>> classes = new ArrayList<>(List.of(RoadTrace.class.getDeclaredClasses()));
        must(classes.size() < 12, "classes: " + classes.size());
        for (Class<?> inside : classes) {
            must(Modifier.isStatic(inside.getModifiers()) && !Modifier.isPublic(inside.getModifiers())
                && !Modifier.isProtected(inside.getModifiers()), "static and not public: " + inside);
        }
        classes.add(RoadTrace.class);
        for (Class<?> each : classes) {
            int fields = 0;
            for (Field field : each.getDeclaredFields()) {
                boolean isStatic = Modifier.isStatic(field.getModifiers());
                must(!isStatic || Modifier.isFinal(field.getModifiers()), "static but not final: " + field);
                fields += isStatic ? 0 : 1;
            }
            must(fields <= MOST_FIELDS, each + " has fields: " + fields);
            for (Method method : each.getDeclaredMethods()) {
                must(method.getParameterCount() <= MOST_PARAMETERS, "parameters: " + method);
            }
        }
    }

    private static void textKeepsTheRules(String text) {
        String code = text.replaceAll("(?s)/\\*.*?\\*/", "").replaceAll("//[^\n]*", "");
        for (String never : NEVER) {
            must(!Pattern.compile(never).matcher(code).find(), "LANGUAGE.md leaves out: " + never);
        }
        int start = 0;
        String[] lines = text.split("\n");
        for (int i = 0; i < lines.length; i++) {
            if (lines[i].matches("( {4}| {8})[a-zA-Z].*\\) \\{")) {
                start = i;
            }
            if (lines[i].matches(" {4}\\}| {8}\\}")) {
                must(i - start < MOST_LINES, "long method at line " + (start + 1));
            }
        }
    }

    private static void runsMakeLittle() {
        ThreadMXBean threads = (ThreadMXBean) ManagementFactory.getThreadMXBean();
        long self = Thread.currentThread().getId();
        long before = threads.getThreadAllocatedBytes(self);
        dearestRun();
        long bytes = threads.getThreadAllocatedBytes(self) - before;
        must(bytes <= MOST_BYTES_OF_A_RUN, "a run of 512 calls makes so many bytes: " + bytes);
    }

    /** 512 calls that fill the desk and then ask for what takes the most work. */
    private static void dearestRun() {
        RoadTrace x = Sentences.fullest();
        for (int call = 172; call < 512; call += 2) {
            must(x.against(1) >= 0, "AGAINST in the dearest run");
            must(x.sure(call % 6, 100000) >= 0, "SURE in the dearest run");
        }
    }
}
