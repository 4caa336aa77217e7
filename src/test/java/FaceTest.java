import java.lang.reflect.Constructor;
import java.lang.reflect.Field;
import java.lang.reflect.Method;
import java.lang.reflect.Modifier;
import java.util.ArrayList;
import java.util.Arrays;
import java.util.List;
import java.util.TreeSet;

/** The class shows the document's public face and nothing beside it (LANGUAGE.md, rules 1, 2, 5). */
public final class FaceTest {
    private static final List<String> FACE = List.of(
        "push(int)", "pop()", "exchange(int, int)", "reverse()", "mirror()", "move(int, int)",
        "length()", "at(int)", "rise(int)", "fall(int)", "riseOfFirst(int, int)",
        "riseUpTo(int, int)", "rises()", "falls()", "longestRises()", "words()", "inversions()");
    private static final Check CHECK = new Check();

    public static void main(String[] args) {
        CHECK.due("public final class", RskShapes.class.getModifiers(), Modifier.PUBLIC | Modifier.FINAL);
        CHECK.due("nested classes", RskShapes.class.getDeclaredClasses().length, 0);
        constructors();
        methods();
        fields();
        CHECK.end("FaceTest");
    }

    private static void constructors() {
        Constructor<?>[] all = RskShapes.class.getDeclaredConstructors();
        CHECK.due("constructors", all.length, 1);
        CHECK.due("parameters of the constructor", all[0].getParameterCount(), 0);
        CHECK.due("public constructor", all[0].getModifiers(), Modifier.PUBLIC);
    }

    private static void methods() {
        List<String> shown = new ArrayList<>();
        List<String> shownNames = new ArrayList<>();
        List<String> hiddenNames = new ArrayList<>();
        for (Method method : RskShapes.class.getDeclaredMethods()) {
            if (Modifier.isPrivate(method.getModifiers())) {
                hiddenNames.add(method.getName());
                continue;
            }
            String types = Arrays.toString(Arrays.stream(method.getParameterTypes()).map(Class::getName).toArray());
            String name = method.getName() + "(" + types.substring(1, types.length() - 1) + ")";
            shown.add(name);
            shownNames.add(method.getName());
            CHECK.due(name + " is public and of the object", method.getModifiers(), Modifier.PUBLIC);
            CHECK.due(name + " answers an int", method.getReturnType() == int.class ? 1 : 0, 1);
        }
        if (!new TreeSet<>(shown).equals(new TreeSet<>(FACE))) {
            System.out.println("methods shown: " + new TreeSet<>(shown));
        }
        CHECK.due("methods are those of the document", new TreeSet<>(shown).equals(new TreeSet<>(FACE)) ? 1 : 0, 1);
        hiddenNames.retainAll(shownNames);
        CHECK.due("private methods named as public ones", hiddenNames.size(), 0);
    }

    private static void fields() {
        for (Field field : RskShapes.class.getDeclaredFields()) {
            int modifiers = field.getModifiers();
            CHECK.due(field.getName() + " is private", Modifier.isPrivate(modifiers) ? 1 : 0, 1);
            if (Modifier.isStatic(modifiers)) {
                boolean plain = field.getType() == int.class || field.getType() == long.class;
                CHECK.due(field.getName() + " is a constant number", plain && Modifier.isFinal(modifiers) ? 1 : 0, 1);
            }
        }
    }
}
