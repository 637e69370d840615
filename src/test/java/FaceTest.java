import java.lang.reflect.Constructor;
import java.lang.reflect.Field;
import java.lang.reflect.Method;
import java.lang.reflect.Modifier;
import java.nio.file.Files;
import java.nio.file.Path;
import java.util.Arrays;
import java.util.Set;
import java.util.TreeSet;

/** The face is the document's, nothing more; and what of LANGUAGE.md can be seen from outside. */
public final class FaceTest {
    private static final Set<String> DUE = new TreeSet<>(Arrays.asList(
        "int feed(long,long,long)", "int truce()", "int stone(int,int)", "int set(int,int,int)",
        "int leave(int)", "int fits(int,int,int)", "boolean undo()", "int column(int,int)",
        "int state(int)", "int act(int,int)", "int pays()", "int days()", "int best()", "int holds(int)",
        "int mason(int,int)", "int reached(int)", "int histories(int)", "int lots(int,int,int)",
        "boolean mark(int,boolean)", "int count(int)"));

    private static String told(Method method) {
        StringBuilder text = new StringBuilder(method.getReturnType() + " " + method.getName() + "(");
        for (Class<?> type : method.getParameterTypes()) {
            text.append(text.charAt(text.length() - 1) == '(' ? "" : ",").append(type);
        }
        return text.append(")").toString();
    }

    private static void members(Check check) {
        Set<String> found = new TreeSet<>();
        Set<String> names = new TreeSet<>();
        for (Method method : TruceWall.class.getDeclaredMethods()) {
            if (!Modifier.isPrivate(method.getModifiers())) {
                check.due(method + " is public", Modifier.isPublic(method.getModifiers()), true);
                found.add(told(method));
                names.add(method.getName());
            }
        }
        check.due("methods " + found, found.equals(DUE), true);
        for (Class<?> inside : TruceWall.class.getDeclaredClasses()) {
            check.due(inside + " is static", Modifier.isStatic(inside.getModifiers()), true);
            for (Method method : inside.getDeclaredMethods()) {
                check.due(method + " has a name of its own", names.contains(method.getName()), false);
            }
        }
        for (Method method : TruceWall.class.getDeclaredMethods()) {
            boolean borrowed = Modifier.isPrivate(method.getModifiers()) && names.contains(method.getName());
            check.due(method + " has a name of its own", borrowed, false);
        }
        for (Field field : TruceWall.class.getDeclaredFields()) {
            boolean hidden = Modifier.isPrivate(field.getModifiers());
            check.due(field + " is hidden", hidden, !field.getName().equals("NONE"));
        }
        Constructor<?>[] makers = TruceWall.class.getDeclaredConstructors();
        check.due("constructors", makers.length, 1);
        check.due("constructor is public", Modifier.isPublic(makers[0].getModifiers()), true);
        check.due("constructor's parameters", makers[0].getParameterCount(), 0);
        check.due("class is final", Modifier.isFinal(TruceWall.class.getModifiers()), true);
        check.due("classes inside, 12 at most", TruceWall.class.getDeclaredClasses().length <= 12, true);
    }

    private static void source(Check check) throws Exception {
        String text = Files.readString(Path.of("src/main/java/TruceWall.java"));
        String[] outside = {"->", "::", " finally", "synchronized", "assert ", "catch", "Exact(", "System.nano",
            "System.current", "Random", "static {", "Thread", "HashMap"};
        for (String word : outside) {
            check.due("the source holds '" + word + "'", text.contains(word), false);
        }
        int imports = 0;
        for (String line : text.split("\n")) {
            imports += line.startsWith("import ") ? 1 : 0;
        }
        check.due("imports", imports, 1);
    }

    private static void newObject(Check check) {
        TruceWall wall = new TruceWall();
        check.due("NONE", TruceWall.NONE, -1);
        check.due("columns", wall.count(0), 2);
        check.due("high", wall.count(1), 1);
        check.due("stones", wall.count(2), 0);
        check.due("small", wall.count(3), 1);
        check.due("to take back", wall.count(4), 0);
        check.due("signs", wall.count(5), 0);
        check.due("no count -1", wall.count(-1), -1);
        check.due("no count 6", wall.count(6), -1);
        // No stone and no gate: town 0 can do nothing, and pays.
        int[] states = {0, -1, 0, 0, 0, 0, 0, 0, 0, 0};
        for (int what = 0; what < states.length; what++) {
            check.due("state " + what, Check.state(wall, what), states[what]);
        }
        for (int c = 0; c < 2; c++) {
            int[] bare = {0, -1, 0, -1, -1};
            for (int what = 0; what < bare.length; what++) {
                check.due("column " + c + " " + what, wall.column(c, what), bare[what]);
            }
        }
        check.due("no stone", wall.stone(0, 0), -1);
        check.due("no stone fits", wall.fits(0, 0, 1), 1);
        check.due("over before no gates", wall.leave(0), 2);
        check.due("undo", wall.undo(), false);
        for (int mark = -1; mark <= 4; mark++) {
            check.due("mark " + mark, wall.mark(mark, true), false);
        }
    }

    public static void main(String[] args) throws Exception {
        Check check = new Check("FaceTest");
        members(check);
        source(check);
        newObject(check);
        check.end();
    }
}
