import java.io.IOException;
import java.lang.reflect.Constructor;
import java.lang.reflect.Field;
import java.lang.reflect.Method;
import java.lang.reflect.Modifier;
import java.nio.file.Files;
import java.nio.file.Path;
import java.util.ArrayList;
import java.util.Arrays;
import java.util.List;
import java.util.TreeSet;
import java.util.regex.Matcher;
import java.util.regex.Pattern;

/** The public face of the document, and what of LANGUAGE.md can be seen without a compiler. */
public final class FaceTest {
    private static final String[] FACE = {
        "int make(int, int) IndexOutOfBoundsException IllegalArgumentException IllegalStateException",
        "int makeLink(int, int, int) IndexOutOfBoundsException IllegalArgumentException IllegalStateException",
        "int rename(int, int) IndexOutOfBoundsException IllegalArgumentException IllegalStateException",
        "int delete(int) IndexOutOfBoundsException IllegalStateException",
        "int find(int, int) IndexOutOfBoundsException IllegalArgumentException",
        "int subkeyAt(int, int) IndexOutOfBoundsException",
        "int list(int) IndexOutOfBoundsException",
        "int follow(int) IndexOutOfBoundsException",
        "int setValue(int, int, int, int) IndexOutOfBoundsException IllegalArgumentException IllegalStateException",
        "int resize(int, int, int) IndexOutOfBoundsException IllegalArgumentException IllegalStateException",
        "int dropValue(int, int) IndexOutOfBoundsException",
        "int unit(int, int, int) IndexOutOfBoundsException",
        "int setRights(int, int) IndexOutOfBoundsException IllegalArgumentException IllegalStateException",
        "int sharers(int) IllegalArgumentException",
        "int sectors()",
        "int cell(int) IndexOutOfBoundsException",
        "int place(int) IndexOutOfBoundsException",
        "int used()",
        "int usedByTree()",
        "boolean watch(int, int, boolean) IndexOutOfBoundsException IllegalArgumentException",
        "int takeNotice()",
        "long dirty()",
        "int flush() IllegalStateException",
        "int write(int) IllegalArgumentException IllegalStateException",
        "int log(int) IllegalArgumentException",
        "int crash()",
    };

    private static final List<String> FACE_IN_ORDER = List.of(
        "---- keys", "make", "makeLink", "rename", "delete", "find", "subkeyAt", "list", "follow",
        "---- values", "setValue", "resize", "dropValue", "unit",
        "---- rights", "setRights", "sharers",
        "---- cells", "sectors", "cell", "place", "used", "usedByTree",
        "---- watches", "watch", "takeNotice",
        "---- flushes and crashes", "dirty", "flush", "write", "log", "crash");

    /** What the program may not hold, by the rules of LANGUAGE.md. */
    private static final String[] RULED_OUT = {"->", "::", "\\bcatch\\b", "\\bfinally\\b", "\\bsynchronized\\b",
        "\\bassert\\b", "\\binstanceof\\b", "\\bpackage\\b", "\\bString\\b", "\\bSystem\\.(?!arraycopy\\()",
        "\\bThread\\b", "\\bRandom\\b", "Exact\\(", "\\bdouble\\b", "\\bfloat\\b", "@", "\\bprotected\\b"};

    private static final int MOST_FIELDS = 20;
    private static final int MOST_PARAMETERS = 7;
    /** What 512 new objects may hold, if all calls of a run were to make one. */
    private static final int MOST_ELEMENTS = 7_300_000 / 512;

    public static void main(String[] args) throws IOException, IllegalAccessException {
        faceIsTheDocuments();
        privateMethodsHaveOtherNames();
        classesAreSmall();
        objectsAreSmall();
        String program = Files.readString(Path.of("src/main/java/HiveKeys.java"));
        callsHaveTheirHeadings(program);
        textKeepsToTheRules(program.replaceAll("(?s)/\\*.*?\\*/|//[^\n]*|\"[^\"\n]*\"", ""));
        Check.end("FaceTest");
    }

    private static void faceIsTheDocuments() {
        Class<HiveKeys> face = HiveKeys.class;
        TreeSet<String> got = new TreeSet<>();
        for (Method method : face.getDeclaredMethods()) {
            if (!Modifier.isPrivate(method.getModifiers())) {
                got.add(textOf(method));
                Check.due(method.getName() + "() is public", Modifier.isPublic(method.getModifiers()), true);
            }
        }
        TreeSet<String> due = new TreeSet<>(Arrays.asList(FACE));
        if (!got.equals(due)) {
            Check.fail("the face is " + got + ", due is " + due);
        }
        Check.due("the class is public and final", face.getModifiers(), Modifier.PUBLIC | Modifier.FINAL);
        Constructor<?>[] constructors = face.getDeclaredConstructors();
        Check.due("constructors", constructors.length, 1);
        Check.due("its parameters", constructors[0].getParameterCount(), 0);
        Check.due("it is public", Modifier.isPublic(constructors[0].getModifiers()), true);
        for (Field field : face.getDeclaredFields()) {
            Check.due(field.getName() + " is private", Modifier.isPrivate(field.getModifiers()), true);
        }
    }

    /** "Ahead of the calls .. the interface says: ---- keys.", and so on. */
    private static void callsHaveTheirHeadings(String program) {
        Matcher said = Pattern.compile("(?m)^    (?:// (---- .*)|public \\w+ (\\w+)\\()").matcher(program);
        List<String> got = new ArrayList<>();
        while (got.size() < FACE_IN_ORDER.size() && said.find()) {
            got.add(said.group(1) != null ? said.group(1) : said.group(2));
        }
        if (!got.equals(FACE_IN_ORDER)) {
            Check.fail("the calls and their headings are " + got + ", due are " + FACE_IN_ORDER);
        }
    }

    private static String textOf(Method method) {
        List<String> parameters = new ArrayList<>();
        for (Class<?> parameter : method.getParameterTypes()) {
            parameters.add(parameter.getSimpleName());
        }
        StringBuilder text = new StringBuilder(method.getReturnType().getSimpleName() + " " + method.getName());
        text.append('(').append(String.join(", ", parameters)).append(')');
        for (Class<?> exception : method.getExceptionTypes()) {
            text.append(' ').append(exception.getSimpleName());
        }
        return text.toString();
    }

    private static List<Class<?>> allClasses() {
        List<Class<?>> all = new ArrayList<>(Arrays.asList(HiveKeys.class.getDeclaredClasses()));
        all.add(HiveKeys.class);
        return all;
    }

    private static void privateMethodsHaveOtherNames() {
        for (Class<?> c : allClasses()) {
            for (Method method : c.getDeclaredMethods()) {
                for (Method shown : HiveKeys.class.getMethods()) {
                    boolean isOther = method.equals(shown) || !method.getName().equals(shown.getName());
                    Check.due(c.getSimpleName() + "." + method.getName() + " has a name of its own", isOther, true);
                }
            }
        }
    }

    private static void classesAreSmall() {
        Check.due("at most 12 classes", allClasses().size() <= 12, true);
        for (Class<?> c : allClasses()) {
            int fields = 0;
            for (Field field : c.getDeclaredFields()) {
                boolean isStatic = Modifier.isStatic(field.getModifiers());
                fields += isStatic ? 0 : 1;
                Check.due(field + " is final, if it is static",
                        !isStatic || Modifier.isFinal(field.getModifiers()), true);
            }
            Check.due(c.getSimpleName() + " has few fields", fields <= MOST_FIELDS, true);
            for (Method method : c.getDeclaredMethods()) {
                Check.due(method + " has few parameters", method.getParameterCount() <= MOST_PARAMETERS, true);
            }
            boolean isInside = c != HiveKeys.class;
            Check.due(c.getSimpleName() + " is private and static, if it is inside", !isInside
                    || Modifier.isPrivate(c.getModifiers()) && Modifier.isStatic(c.getModifiers()), true);
        }
    }

    private static void objectsAreSmall() throws IllegalAccessException {
        int elements = elementsOf(new HiveKeys(), new ArrayList<>());
        Check.due("an object's " + elements + " fields and elements are few", elements <= MOST_ELEMENTS, true);
    }

    private static int elementsOf(Object object, List<Object> known) throws IllegalAccessException {
        if (object == null || known.stream().anyMatch(k -> k == object)) {
            return 0;
        }
        known.add(object);
        if (object instanceof int[]) {
            return ((int[]) object).length;
        }
        int sum = 0;
        for (Field field : object.getClass().getDeclaredFields()) {
            if (!Modifier.isStatic(field.getModifiers())) {
                field.setAccessible(true);
                sum++;
                sum += field.getType().isPrimitive() ? 0 : elementsOf(field.get(object), known);
            }
        }
        return sum;
    }

    private static void textKeepsToTheRules(String code) {
        for (String pattern : RULED_OUT) {
            Check.due("the program holds " + pattern, Pattern.compile(pattern).matcher(code).find(), false);
        }
        Matcher imports = Pattern.compile("import ([\\w.*]+);").matcher(code);
        while (imports.find()) {
            Check.due("import of " + imports.group(1), imports.group(1).equals("java.util.Arrays"), true);
        }
        // An object is made in constructors and at throws alone: no call makes rows anew.
        Matcher made = Pattern.compile("\\bnew \\w+").matcher(code);
        while (made.find()) {
            String before = code.substring(0, made.start());
            String line = before.substring(before.lastIndexOf('\n') + 1);
            boolean isField = line.matches(" *(private )?final .* = ") || line.matches(" *throw ");
            boolean isInConstructor = line.matches(" {8}(\\w+ )?\\w+ = ");
            Check.due(made.group() + " is made once, or thrown", isField || isInConstructor, true);
        }
    }
}
