import java.lang.reflect.Constructor;
import java.lang.reflect.Field;
import java.lang.reflect.Method;
import java.lang.reflect.Modifier;
import java.util.Set;
import java.util.TreeSet;

/** The public face of the document, nothing less and nothing more. */
public final class FaceTest {
    private static final Set<String> METHODS = Set.of(
        "boolean wall(int, boolean)", "int block(int, boolean)", "boolean isWall(int)",
        "int distance(int, int)", "int nearer(int, int, int)", "boolean vital(int, int, int)",
        "int farthest(int)", "int reach(int)", "int at(int, int)");

    public static void main(String[] args) throws Exception {
        Check.sentence("The public face");
        Check.due("BAD", JumpPoints.BAD, -1);
        Check.due("NONE", JumpPoints.NONE, -2);
        Check.due("class is public and final",
            JumpPoints.class.getModifiers(), Modifier.PUBLIC | Modifier.FINAL);
        constructors();
        methods();
        fields();
        Check.end();
    }

    private static void constructors() {
        Constructor<?>[] all = JumpPoints.class.getDeclaredConstructors();
        Check.due("number of constructors", all.length, 1);
        Check.due("constructor is public", Modifier.isPublic(all[0].getModifiers()), true);
        Check.due("constructor's parameters", all[0].getParameterCount(), 0);
    }

    private static void methods() {
        Set<String> seen = new TreeSet<>();
        for (Method method : JumpPoints.class.getDeclaredMethods()) {
            if (Modifier.isPrivate(method.getModifiers())) {
                continue;
            }
            String text = signature(method);
            seen.add(text);
            Check.due(text + " is plain public", method.getModifiers(), Modifier.PUBLIC);
            Check.due(text + " is of the face", METHODS.contains(text), true);
        }
        for (String text : METHODS) {
            Check.due(text + " is there", seen.contains(text), true);
        }
    }

    private static String signature(Method method) {
        StringBuilder text = new StringBuilder(method.getReturnType() + " " + method.getName() + "(");
        String gap = "";
        for (Class<?> type : method.getParameterTypes()) {
            text.append(gap).append(type);
            gap = ", ";
        }
        return text.append(")").toString();
    }

    private static void fields() throws Exception {
        int constant = Modifier.PUBLIC | Modifier.STATIC | Modifier.FINAL;
        for (String name : new String[] {"BAD", "NONE"}) {
            Field field = JumpPoints.class.getField(name);
            Check.due(name + " is a public constant", field.getModifiers(), constant);
            Check.due(name + " is an int", field.getType() == int.class, true);
        }
        for (Field field : JumpPoints.class.getDeclaredFields()) {
            String name = field.getName();
            boolean named = name.equals("BAD") || name.equals("NONE");
            Check.due(name + " is private", Modifier.isPrivate(field.getModifiers()), !named);
        }
    }
}
