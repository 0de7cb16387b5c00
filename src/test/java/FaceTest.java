import java.io.IOException;
import java.lang.reflect.Constructor;
import java.lang.reflect.Field;
import java.lang.reflect.Method;
import java.lang.reflect.Modifier;
import java.nio.file.Files;
import java.nio.file.Path;
import java.util.Arrays;
import java.util.HashSet;
import java.util.Set;
import java.util.TreeSet;
import java.util.regex.Matcher;
import java.util.regex.Pattern;

/** The class's face is the document's, and its text keeps to what of LANGUAGE.md can be read off it. */
public final class FaceTest {
    private static final String[] METHODS = {
        "int sheet(int,int)", "int lay(int,int,int)", "int tear(int)", "int copy(int,int,int,int,int)",
        "int ground(int,int,int)", "int drop(int)", "int twin(int,int)", "int told(int,int)", "int mark(int,int)",
        "int next(int,int,boolean)", "int bend(int,int)", "int name(int,int)", "int alike(int,int)", "int mean(int)",
        "int shear(int,int)", "int turn(int)", "int see(int,int,int)", "int cylinders(int,int,int)",
        "int cylinder(int,int,int)", "int share(int)", "int reach(int)", "int reached(int,int,int)", "int cusps(int)",
        "int width(int,int)", "int meanShare(int)", "int twist(int)", "int comes(int,int)", "long upper()",
        "long lower()", "int count(int)", "int finding()", "int findings(int)", "long digest()"};
    private static final String[] CONSTANTS = {"BAD -1", "FULL -2", "FINDING -3", "STATE -4", "SPENT -6", "NONE -9"};
    // Words that no line of the class needs, though a few of them would be allowed.
    private static final String[] WORDS = {"throw", "throws", "try", "catch", "synchronized", "assert", "import",
        "package", "equals", "hashCode", "System.out", "Exact", "Thread", "Random", "double", "float", "volatile"};

    private static final int MOST_LINES = 60;

    private static int wrong = 0;

    private FaceTest() {
    }

    public static void main(String[] args) throws IOException, IllegalAccessException {
        demand("public and final", Modifier.isPublic(SquareGrounds.class.getModifiers())
            && Modifier.isFinal(SquareGrounds.class.getModifiers()));
        methods();
        constants();
        constructors();
        classesInside();
        words();
        lengths();
        System.out.println(wrong == 0 ? "the face is as told" : wrong + " faults");
        if (wrong != 0) {
            System.exit(1);
        }
    }

    private static void demand(String what, boolean holds) {
        if (!holds) {
            wrong++;
            System.out.println("not so: " + what);
        }
    }

    private static String told(Method method) {
        StringBuilder text = new StringBuilder(method.getReturnType() + " " + method.getName() + "(");
        for (Class<?> type : method.getParameterTypes()) {
            text.append(text.charAt(text.length() - 1) == '(' ? "" : ",").append(type);
        }
        return text.append(")").toString();
    }

    private static void methods() {
        Set<String> open = new TreeSet<>();
        Set<String> names = new HashSet<>();
        for (Method method : SquareGrounds.class.getDeclaredMethods()) {
            if (!Modifier.isPrivate(method.getModifiers())) {
                open.add(told(method));
                names.add(method.getName());
                demand("public and of the object: " + method.getName(), Modifier.isPublic(method.getModifiers())
                    && !Modifier.isStatic(method.getModifiers()));
            }
        }
        demand("the methods are the document's: " + open, open.equals(new TreeSet<>(Arrays.asList(METHODS))));
        hiddenNames(SquareGrounds.class, names);
        for (Class<?> inside : SquareGrounds.class.getDeclaredClasses()) {
            hiddenNames(inside, names);
        }
    }

    private static void hiddenNames(Class<?> type, Set<String> taken) {
        for (Method method : type.getDeclaredMethods()) {
            boolean ofFace = type == SquareGrounds.class && Modifier.isPublic(method.getModifiers());
            demand("a name of its own: " + type.getName() + "." + method.getName(),
                ofFace || !taken.contains(method.getName()));
            demand("at most seven parameters: " + method.getName(), method.getParameterCount() <= 7);
        }
    }

    private static void constants() throws IllegalAccessException {
        Set<String> open = new TreeSet<>();
        for (Field field : SquareGrounds.class.getDeclaredFields()) {
            int modifiers = field.getModifiers();
            demand("static fields are final: " + field.getName(),
                !Modifier.isStatic(modifiers) || Modifier.isFinal(modifiers));
            if (!Modifier.isPrivate(modifiers)) {
                demand("a constant: " + field.getName(), Modifier.isPublic(modifiers)
                    && Modifier.isStatic(modifiers) && field.getType() == int.class);
                open.add(field.getName() + " " + field.getInt(null));
            }
        }
        demand("the constants are the document's: " + open, open.equals(new TreeSet<>(Arrays.asList(CONSTANTS))));
    }

    private static void constructors() {
        Constructor<?>[] made = SquareGrounds.class.getDeclaredConstructors();
        demand("one public constructor without arguments", made.length == 1 && made[0].getParameterCount() == 0
            && Modifier.isPublic(made[0].getModifiers()));
    }

    private static void classesInside() {
        Class<?>[] inside = SquareGrounds.class.getDeclaredClasses();
        demand("at most twelve classes", inside.length + 1 <= 12);
        for (Class<?> type : inside) {
            demand("static: " + type, Modifier.isStatic(type.getModifiers()));
            demand("not open: " + type, !Modifier.isPublic(type.getModifiers())
                && !Modifier.isProtected(type.getModifiers()));
            demand("at most twenty fields: " + type, type.getDeclaredFields().length <= 20);
        }
    }

    private static void words() throws IOException {
        String text = Files.readString(Path.of("src/main/java/SquareGrounds.java"));
        String code = text.replaceAll("(?s)/\\*.*?\\*/", "").replaceAll("//[^\n]*", "");
        for (String word : WORDS) {
            demand("without " + word, !Pattern.compile("\\b" + Pattern.quote(word) + "\\b").matcher(code).find());
        }
        demand("without a lambda or a reference to a method", !code.contains("->") && !code.contains("::"));
        Matcher made = Pattern.compile("\n( {8,})[^\n]*\\bnew\\b[^\n]*").matcher(code);
        while (made.find()) {
            boolean ofField = made.group().matches("\n {8}(final |private )*[\\w\\[\\]]+ \\w+ = new [^\n]*");
            boolean inConstructor = made.group().matches("\n {12}(sheets\\[s\\]|grounds\\[g\\]) = new \\w+\\(\\);");
            demand("rows are made with the object alone:" + made.group(), ofField || inConstructor);
        }
    }

    /** From a line that opens a method to the first that closes at the same depth. */
    private static void lengths() throws IOException {
        String text = Files.readString(Path.of("src/main/java/SquareGrounds.java"));
        Matcher method = Pattern.compile("\n( +)[\\w\\[\\] ]+\\([^\n;]*\\) \\{\n(?s:.*?)\n\\1\\}").matcher(text);
        int methods = 0;
        while (method.find()) {
            methods++;
            demand("short: " + method.group().trim().split("\n")[0], method.group().split("\n").length <= MOST_LINES);
        }
        demand("methods are found: " + methods, methods > METHODS.length);
    }
}
