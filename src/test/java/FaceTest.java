import java.lang.reflect.Constructor;
import java.lang.reflect.Field;
import java.lang.reflect.Method;
import java.lang.reflect.Modifier;
import java.util.Arrays;
import java.util.Set;
import java.util.TreeSet;

/** The public face of the document, and those rules of LANGUAGE.md that the compiled class shows. */
public final class FaceTest {
    private static final String[] FACE = {"make/2", "remove/1", "condition/2", "rule/1", "clearRules/0", "elements/0",
        "rules/0", "exists/1", "contents/1", "matches/1", "open/0", "firstRule/0", "firstTag/1", "fire/0", "run/1",
        "fitting/1"};

    public static void main(String[] args) {
        theClass();
        constructors();
        methods();
        fields();
        Due.end();
    }

    private static void theClass() {
        Due.part("class");
        Class<?> face = RuleMatcher.class;
        holds("public and final", Modifier.isPublic(face.getModifiers()) && Modifier.isFinal(face.getModifiers()));
        holds("no package", face.getPackageName().isEmpty());
        holds("no other class behind or in it", face.getSuperclass() == Object.class
            && face.getInterfaces().length == 0 && face.getDeclaredClasses().length == 0);
    }

    private static void constructors() {
        Due.part("constructor");
        Constructor<?>[] all = RuleMatcher.class.getDeclaredConstructors();
        holds("one alone", all.length == 1);
        holds("public, no parameters", Modifier.isPublic(all[0].getModifiers()) && all[0].getParameterCount() == 0);
    }

    private static void methods() {
        Set<String> wanted = new TreeSet<>(Arrays.asList(FACE));
        Set<String> names = new TreeSet<>();
        for (String name : FACE) {
            names.add(name.substring(0, name.indexOf('/')));
        }
        Set<String> found = new TreeSet<>();
        for (Method method : RuleMatcher.class.getDeclaredMethods()) {
            Due.part("method " + method.getName());
            if (Modifier.isPublic(method.getModifiers())) {
                found.add(method.getName() + "/" + method.getParameterCount());
                holds("answers int", method.getReturnType() == int.class);
                holds("takes int", Arrays.stream(method.getParameterTypes()).allMatch(t -> t == int.class));
                holds("not static", !Modifier.isStatic(method.getModifiers()));
            } else {
                holds("private", Modifier.isPrivate(method.getModifiers()));
                holds("not named like a public one", !names.contains(method.getName()));
                holds("answers no array", !method.getReturnType().isArray());
                holds("at most seven parameters", method.getParameterCount() <= 7);
            }
        }
        Due.part("methods");
        holds("those of the document: " + found, found.equals(wanted));
    }

    private static void fields() {
        int changing = 0;
        for (Field field : RuleMatcher.class.getDeclaredFields()) {
            Due.part("field " + field.getName());
            int modifiers = field.getModifiers();
            Class<?> type = field.getType();
            Class<?> item = type.isArray() ? type.getComponentType() : type;
            holds("private", Modifier.isPrivate(modifiers));
            holds("a number, or a row of numbers", item.isPrimitive() && item != float.class && item != double.class);
            holds("final if it is an array", !type.isArray() || Modifier.isFinal(modifiers));
            if (Modifier.isStatic(modifiers)) {
                holds("a constant", Modifier.isFinal(modifiers) && (type == int.class || type == long.class));
            } else {
                changing++;
            }
        }
        Due.part("fields");
        holds("at most forty", changing <= 40);
    }

    private static void holds(String what, boolean so) {
        Due.due(what, so ? 1 : 0, 1);
    }
}
