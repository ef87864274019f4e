import java.io.IOException;
import java.lang.reflect.Constructor;
import java.lang.reflect.Field;
import java.lang.reflect.Method;
import java.lang.reflect.Modifier;
import java.nio.file.Files;
import java.nio.file.Path;
import java.util.ArrayList;
import java.util.Arrays;
import java.util.List;
import java.util.TreeSet;
import java.util.regex.Matcher;
import java.util.regex.Pattern;

/** The face, and those rules of ../shared/LANGUAGE.md that can be told from the classes or from the words of the file. */
public final class LanguageTest {
    private static final Path FILE = Path.of("src/main/java/FlippedBlinds.java");
    private static final String[] FACE = {
        "word(int)", "unword(int)", "show(int,int)", "blank(int)", "stick(int,int,int,int)", "repair(int,int)",
        "set(int,int)", "disc(int,int,int,int)", "blindOf(int,int)", "wordOf(int,int)", "margin(int,int,int)",
        "would(int,int,int)", "closest(int,int)", "bestRepair(int,int,int)", "count(int)", "undo()", "type(int)",
        "clearText()", "fault(int)", "play()"
    };
    private static final String[] CONSTANTS = {"INVALID_ARGUMENT", "NOT_POSSIBLE", "LIMIT_REACHED", "NOT_FOUND"};
    private static final String[] FORBIDDEN = {
        "\\bthrows?\\b", "\\btry\\b", "\\bcatch\\b", "\\bsynchronized\\b", "\\bassert\\b", "\\bimport\\b",
        "\\bpackage\\b", "->", "::", "\\bstatic\\s*\\{", "Exact\\b", "\\bequals\\b", "\\bhashCode\\b", "\\btoString\\b",
        "\\bObject\\b", "\\bvar\\b", "\\bgetClass\\b", "\\bnew\\s+\\w+\\s*\\([^)]*\\)\\s*\\{",
        "\\bSystem\\.(?!arraycopy)", "\"", "\\bprotected\\b"
    };

    private final Checks checks = new Checks("LanguageTest");

    public static void main(String[] args) throws IOException {
        LanguageTest test = new LanguageTest();
        test.face();
        test.classesInside();
        test.words(Files.readString(FILE));
        test.lineLengths(Files.readAllLines(FILE));
        test.checks.end();
    }

    private static String signature(Method method) {
        StringBuilder types = new StringBuilder();
        for (Class<?> type : method.getParameterTypes()) {
            types.append(types.length() == 0 ? "" : ",").append(type.getName());
        }
        return method.getName() + "(" + types + ")";
    }

    private void face() {
        Class<?> face = FlippedBlinds.class;
        checks.holds("the class is final", Modifier.isFinal(face.getModifiers()));
        checks.holds("the class is public", Modifier.isPublic(face.getModifiers()));
        checks.holds("it extends nothing", face.getSuperclass() == Object.class);
        TreeSet<String> open = new TreeSet<>();
        for (Method method : face.getDeclaredMethods()) {
            if (Modifier.isPrivate(method.getModifiers())) {
                checks.holds(method.getName() + " is no name of the face", !isOfFace(method.getName()));
            } else {
                open.add(signature(method));
                checks.holds(method + " is public and answers an int",
                    Modifier.isPublic(method.getModifiers()) && method.getReturnType() == int.class);
            }
        }
        checks.holds("the methods of the face: " + open, open.equals(new TreeSet<>(Arrays.asList(FACE))));
        TreeSet<String> constants = new TreeSet<>();
        for (Field field : face.getDeclaredFields()) {
            if (!Modifier.isPrivate(field.getModifiers())) {
                constants.add(field.getName());
            }
        }
        checks.holds("the constants: " + constants, constants.equals(new TreeSet<>(Arrays.asList(CONSTANTS))));
        Constructor<?>[] constructors = face.getDeclaredConstructors();
        checks.holds("one public constructor without parameters", constructors.length == 1
            && constructors[0].getParameterCount() == 0 && Modifier.isPublic(constructors[0].getModifiers()));
        checks.due("INVALID_ARGUMENT", FlippedBlinds.INVALID_ARGUMENT, -1000001);
        checks.due("NOT_POSSIBLE", FlippedBlinds.NOT_POSSIBLE, -1000002);
        checks.due("LIMIT_REACHED", FlippedBlinds.LIMIT_REACHED, -1000003);
        checks.due("NOT_FOUND", FlippedBlinds.NOT_FOUND, -1000004);
    }

    private static boolean isOfFace(String name) {
        for (String signature : FACE) {
            if (signature.startsWith(name + "(")) {
                return true;
            }
        }
        return false;
    }

    private void classesInside() {
        List<Class<?>> classes = new ArrayList<>(Arrays.asList(FlippedBlinds.class.getDeclaredClasses()));
        for (Class<?> inside : classes) {
            checks.holds(inside + " is static", Modifier.isStatic(inside.getModifiers()));
            checks.holds(inside + " is not public", !Modifier.isPublic(inside.getModifiers()));
            checks.due(inside + ": classes inside", inside.getDeclaredClasses().length, 0);
        }
        classes.add(FlippedBlinds.class);
        checks.holds("at most twelve classes", classes.size() <= 12);
        for (Class<?> one : classes) {
            int fields = 0;
            for (Field field : one.getDeclaredFields()) {
                boolean fixed = Modifier.isStatic(field.getModifiers());
                checks.holds(field + " is final if it is static", !fixed || Modifier.isFinal(field.getModifiers()));
                fields += fixed ? 0 : 1;
            }
            checks.holds(one + " has at most twenty fields", fields <= 20);
            for (Method method : one.getDeclaredMethods()) {
                checks.holds(method + " bears a name of its own",
                    one == FlippedBlinds.class || !isOfFace(method.getName()));
            }
        }
    }

    private void words(String source) {
        for (char sign : source.toCharArray()) {
            checks.holds("sign " + (int) sign + " is plain", sign == '\n' || sign >= 32 && sign < 127);
        }
        String code = source.replaceAll("(?s)/\\*.*?\\*/", " ").replaceAll("//[^\n]*", " ");
        for (String forbidden : FORBIDDEN) {
            Matcher matcher = Pattern.compile(forbidden).matcher(code);
            checks.holds("the code is without " + forbidden, !matcher.find());
        }
    }

    private void lineLengths(List<String> lines) {
        for (int i = 0; i < lines.size(); i++) {
            checks.holds("line " + (i + 1) + " is not too long", lines.get(i).length() <= 120);
        }
    }
}
