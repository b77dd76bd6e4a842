import java.io.IOException;
import java.lang.reflect.Constructor;
import java.lang.reflect.Field;
import java.lang.reflect.Method;
import java.lang.reflect.Modifier;
import java.nio.file.Files;
import java.nio.file.Path;
import java.util.ArrayList;
import java.util.Arrays;
import java.util.List;
import java.util.TreeSet;

/** The public face is that of the document, and the source keeps to what can be seen of the rules of LANGUAGE.md. */
public final class FaceTests {

    private static final String INDEX = " IndexOutOfBoundsException";
    private static final String ARGUMENT = " IllegalArgumentException";
    private static final String STATE = " IllegalStateException";
    private static final String ELEMENT = " NoSuchElementException";

    private static int failed = 0;

    private static void need(boolean isRight, String what) {
        if (!isRight) {
            failed++;
            System.out.println(what);
        }
    }

    public static void main(String[] args) throws IOException {
        checkFace();
        for (Class<?> inside : WatershedMapper.class.getDeclaredClasses()) {
            checkInside(inside);
        }
        need(WatershedMapper.class.getDeclaredClasses().length < 12, "too many classes");
        checkSource(Files.readAllLines(Path.of("src/main/java/WatershedMapper.java")));
        System.out.println(failed == 0 ? "the face is that of the document" : failed + " faults");
        if (failed != 0) {
            System.exit(1);
        }
    }

    private static TreeSet<String> wantedFace() {
        return new TreeSet<>(Arrays.asList(
            "int resize(int,int)" + ARGUMENT, "int scatter(int,int)" + ARGUMENT,
            "int setHeight(int,int)" + INDEX + ARGUMENT, "int raise(int,int,int)" + INDEX + ARGUMENT,
            "int setRain(int,int)" + INDEX + ARGUMENT, "int setSoak(int,int)" + INDEX + ARGUMENT,
            "boolean setOutlet(int,boolean)" + INDEX + STATE, "int setThreshold(int)" + ARGUMENT,
            "int cell(int,int)" + INDEX + ARGUMENT, "int count(int)" + ARGUMENT, "int level(int)" + INDEX,
            "int levelByPools(int)" + INDEX, "int lake(int,int)" + INDEX + ARGUMENT,
            "int lakeOf(int)" + INDEX + ELEMENT, "int remedy(int)" + INDEX, "int fillLake(int)" + INDEX,
            "int carveLake(int)" + INDEX, "int carveWay(int,int)" + INDEX + ELEMENT,
            "double meanDepth() ArithmeticException", "int flow(int)" + INDEX + ELEMENT,
            "int why(int,int)" + INDEX + ARGUMENT, "int route(int,int)" + INDEX + ELEMENT,
            "long upstream(int)" + INDEX, "int water(int,int)" + INDEX + ARGUMENT, "int account(int)" + ARGUMENT,
            "int order(int)" + INDEX, "int reach(int,int)" + INDEX + ARGUMENT, "int reachOf(int)" + INDEX + ELEMENT,
            "int basin(int,int)" + INDEX + STATE + ARGUMENT, "int divides()",
            "int depression(int,int)" + INDEX + ARGUMENT, "int depressionAt(int,int)" + INDEX + ARGUMENT + ELEMENT,
            "long pools(int)" + ARGUMENT, "int contour(int,int)" + ARGUMENT,
            "int section(int,int,int)" + INDEX + ARGUMENT, "int sectionCell(int,int,int)" + INDEX + ELEMENT,
            "boolean sees(int,int,int)" + INDEX + ARGUMENT, "long viewshed(int,int)" + INDEX + ARGUMENT,
            "int depthsIf(int,int)" + INDEX + ARGUMENT, "int leavingIf(int,int)" + INDEX + ARGUMENT,
            "int mouthIf(int,int)" + INDEX, "int append(char)" + ARGUMENT + STATE, "int execute()" + ARGUMENT + STATE,
            "int errorPosition()" + ELEMENT, "char map(int)" + INDEX, "int undo()" + STATE, "int save()",
            "int restore()" + STATE));
    }

    private static String described(Method method) {
        StringBuilder text = new StringBuilder();
        text.append(method.getReturnType()).append(' ').append(method.getName()).append('(');
        for (Class<?> type : method.getParameterTypes()) {
            text.append(text.charAt(text.length() - 1) == '(' ? "" : ",").append(type);
        }
        text.append(')');
        for (Class<?> thrown : method.getExceptionTypes()) {
            text.append(' ').append(thrown.getSimpleName());
        }
        return text.toString();
    }

    private static void checkFace() {
        Class<?> face = WatershedMapper.class;
        need(face.getModifiers() == (Modifier.PUBLIC | Modifier.FINAL), "the class is to be public and final");
        Constructor<?>[] constructors = face.getDeclaredConstructors();
        need(constructors.length == 1 && Modifier.isPublic(constructors[0].getModifiers())
                && constructors[0].getParameterCount() == 0, "one public constructor without parameters");
        TreeSet<String> got = new TreeSet<>();
        TreeSet<String> names = new TreeSet<>();
        for (Method method : face.getDeclaredMethods()) {
            if (Modifier.isPublic(method.getModifiers())) {
                got.add(described(method));
                names.add(method.getName());
            }
        }
        TreeSet<String> want = wantedFace();
        need(got.equals(want), "the face is another one: " + got);
        for (Method method : face.getDeclaredMethods()) {
            boolean isPrivate = Modifier.isPrivate(method.getModifiers());
            need(isPrivate || Modifier.isPublic(method.getModifiers()), "neither public nor private: " + method);
            need(!isPrivate || !names.contains(method.getName()), "private with a public name: " + method);
        }
        for (Field field : face.getDeclaredFields()) {
            need(Modifier.isPrivate(field.getModifiers()), "not private: " + field);
        }
        checkFields(face);
    }

    private static void checkInside(Class<?> inside) {
        int modifiers = inside.getModifiers();
        need(Modifier.isStatic(modifiers) && !Modifier.isPublic(modifiers) && !Modifier.isProtected(modifiers),
                "neither static nor hidden: " + inside);
        TreeSet<String> names = new TreeSet<>();
        for (Method method : WatershedMapper.class.getMethods()) {
            names.add(method.getName());
        }
        for (Method method : inside.getDeclaredMethods()) {
            need(!names.contains(method.getName()), "bears the name of a public one: " + method);
            need(method.getParameterCount() <= 7, "too many parameters: " + method);
        }
        checkFields(inside);
    }

    private static void checkFields(Class<?> owner) {
        int fields = 0;
        for (Field field : owner.getDeclaredFields()) {
            boolean isStatic = Modifier.isStatic(field.getModifiers());
            need(!isStatic || Modifier.isFinal(field.getModifiers()), "static and not final: " + field);
            fields += isStatic ? 0 : 1;
        }
        need(fields <= 20, "too many fields: " + owner);
    }

    private static void checkSource(List<String> lines) {
        List<String> imports = new ArrayList<>();
        String[] banned = {"->", "::", "catch", "finally", "assert ", "synchronized", "static {", "System.out",
            "Object ", "instanceof", "while (true)", "Exact("};
        int begun = 0;
        for (int k = 0; k < lines.size(); k++) {
            String line = lines.get(k);
            if (line.startsWith("import ")) {
                imports.add(line);
            }
            boolean isComment = line.strip().startsWith("//") || line.strip().startsWith("*")
                    || line.strip().startsWith("/*");
            for (String word : banned) {
                need(isComment || !line.contains(word), "line " + (k + 1) + " has " + word);
            }
            need(line.chars().allMatch(c -> c >= 32 && c < 127), "line " + (k + 1) + " has a sign that is not ASCII");
            need(line.length() <= 120, "line " + (k + 1) + " is long");
            begun = line.endsWith("{") && line.contains("(") && line.matches(" {4}( {4})?[a-z].*") ? k : begun;
            need(!line.matches(" {4}( {4})?}") || k - begun <= 60 || line.length() == 5, "line " + (k + 1)
                    + " ends a long method");
        }
        need(imports.equals(List.of("import java.util.Arrays;", "import java.util.NoSuchElementException;")),
                "other imports: " + imports);
    }
}
