import java.lang.reflect.Constructor;
import java.lang.reflect.Field;
import java.lang.reflect.Method;
import java.lang.reflect.Modifier;
import java.util.Set;
import java.util.TreeSet;

/** The members of the class: the face of the document, and nothing more that can be seen. */
public final class FaceTest {
    private static final Set<String> FACE = Set.of(
        "public int GrowthWords.rule(int,int)",
        "public int GrowthWords.begin(int)",
        "public int GrowthWords.action(int,int)",
        "public int GrowthWords.length(int)",
        "public int GrowthWords.letterAt(int,int)",
        "public int GrowthWords.count(int,int,int,int)",
        "public int GrowthWords.find(int,int,int)",
        "public int GrowthWords.occurrences(int,int)",
        "public int GrowthWords.run(int)",
        "public int GrowthWords.common(int,int)",
        "public int GrowthWords.mirrored(int)",
        "public int GrowthWords.kinds(int,int)",
        "public int GrowthWords.point(int,int)",
        "public int GrowthWords.direction(int)",
        "public int GrowthWords.extent(int)");

    private static int wrong = 0;

    private static void holds(boolean held, String what) {
        if (!held) {
            wrong++;
            System.out.println("not so: " + what);
        }
    }

    private static void methods() {
        Set<String> seen = new TreeSet<>();
        Set<String> names = new TreeSet<>();
        for (Method method : GrowthWords.class.getDeclaredMethods()) {
            if (!Modifier.isPrivate(method.getModifiers())) {
                seen.add(method.toString());
                names.add(method.getName());
            }
            holds(method.getParameterCount() <= 7, "at most seven parameters: " + method);
            holds(!method.getReturnType().isArray(), "answers no array: " + method);
        }
        holds(seen.equals(new TreeSet<>(FACE)), "the methods that can be seen are the document's: " + seen);
        for (Method method : GrowthWords.class.getDeclaredMethods()) {
            holds(!Modifier.isPrivate(method.getModifiers()) || !names.contains(method.getName()),
                "no private method has a public one's name: " + method);
        }
    }

    private static void fields() {
        for (Field field : GrowthWords.class.getDeclaredFields()) {
            Class<?> type = field.getType();
            boolean constant = Modifier.isStatic(field.getModifiers());
            holds(Modifier.isPrivate(field.getModifiers()), "private: " + field);
            holds(!constant || Modifier.isFinal(field.getModifiers()) && (type == int.class || type == long.class),
                "a constant of int or long: " + field);
            Class<?> held = type.isArray() ? type.getComponentType() : type;
            holds(held.isPrimitive() && held != float.class && held != double.class, "whole numbers: " + field);
        }
    }

    public static void main(String[] args) {
        Class<?> face = GrowthWords.class;
        holds(Modifier.isPublic(face.getModifiers()) && Modifier.isFinal(face.getModifiers()), "public and final");
        holds(face.getDeclaredClasses().length == 0, "no nested class");
        holds(face.getSuperclass() == Object.class && face.getInterfaces().length == 0, "a class of its own");
        Constructor<?>[] constructors = face.getDeclaredConstructors();
        holds(constructors.length == 1 && constructors[0].toString().equals("public GrowthWords()"),
            "one constructor, public and without parameters");
        methods();
        fields();
        System.out.println(wrong == 0 ? "the face is as due" : wrong + " things are not as due");
        if (wrong != 0) {
            System.exit(1);
        }
    }
}
