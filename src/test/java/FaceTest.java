import java.lang.reflect.Field;
import java.lang.reflect.Method;
import java.lang.reflect.Modifier;
import java.util.Set;
import java.util.TreeSet;

/** The public face of the document, and what LANGUAGE.md says of members and their types. */
public final class FaceTest {
    private static final String[] FACE = {
        "int gate(int, int, int, int)", "int undo(int)", "boolean next(int, int)",
        "boolean reset(int)", "int ask(int, int)", "int shape(int, int)",
        "boolean same(int, int, int)", "boolean holds(int, int)", "int prime(int, int)",
        "int step(int)", "int reach(int)", "int witness(int)", "int states(int)",
        "int check(int, int, int)", "int alike(int, int)",
    };

    public static void main(String[] args) {
        Check.due("public and final",
                NetDesk.class.getModifiers(), Modifier.PUBLIC | Modifier.FINAL);
        Check.due("nested classes", NetDesk.class.getDeclaredClasses().length, 0);
        Check.due("constructors", NetDesk.class.getDeclaredConstructors().length, 1);
        Check.due("public constructors", NetDesk.class.getConstructors().length, 1);
        theMethodsAreTheFaceOrPrivate();
        theFieldsArePrivateNumbers();
        Check.end();
    }

    private static void theMethodsAreTheFaceOrPrivate() {
        Set<String> open = new TreeSet<>();
        Set<String> openNames = new TreeSet<>();
        for (Method method : NetDesk.class.getDeclaredMethods()) {
            if (!Modifier.isPrivate(method.getModifiers())) {
                Check.due(method + " is public only", method.getModifiers(), Modifier.PUBLIC);
                open.add(signature(method));
                openNames.add(method.getName());
            }
        }
        for (String want : FACE) {
            Check.due(want + " is there", open.contains(want), true);
        }
        Check.due("methods that are not private " + open, open.size(), FACE.length);
        for (Method method : NetDesk.class.getDeclaredMethods()) {
            boolean shared = Modifier.isPrivate(method.getModifiers())
                    && openNames.contains(method.getName());
            Check.due(method + " has a public one's name", shared, false);
            Check.due(method + " has few parameters", method.getParameterCount() <= 7, true);
        }
    }

    private static String signature(Method method) {
        StringBuilder text = new StringBuilder();
        for (Class<?> type : method.getParameterTypes()) {
            text.append(text.length() == 0 ? "" : ", ").append(type.getName());
        }
        return method.getReturnType().getName() + " " + method.getName() + "(" + text + ")";
    }

    private static void theFieldsArePrivateNumbers() {
        int fields = 0;
        for (Field field : NetDesk.class.getDeclaredFields()) {
            int modifiers = field.getModifiers();
            Class<?> type = field.getType();
            Class<?> base = type.isArray() ? type.getComponentType() : type;
            boolean whole = base.isPrimitive() && base != float.class && base != double.class;
            Check.due(field + " is private", Modifier.isPrivate(modifiers), true);
            Check.due(field + " is of whole numbers or booleans", whole, true);
            if (Modifier.isStatic(modifiers)) {
                boolean constant = Modifier.isFinal(modifiers)
                        && (type == int.class || type == long.class);
                Check.due(field + " is a constant", constant, true);
            } else {
                fields++;
            }
        }
        Check.due("at most forty fields", fields <= 40, true);
    }
}
