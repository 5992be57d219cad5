import java.lang.reflect.Constructor;
import java.lang.reflect.Field;
import java.lang.reflect.Method;
import java.lang.reflect.Modifier;
import java.util.Arrays;
import java.util.HashSet;
import java.util.Set;
import java.util.TreeSet;

/** The class has the document's face and no other (rules 1, 2, 5 and 11 of LANGUAGE.md, as far as they can be seen so). */
public final class FaceTest {
    private static final Due DUE = new Due();

    private static final String[] METHODS = {
        "void feed(int, int, int, int, int)", "int end(int)", "int read()", "int fault(int)", "int operation(int, int)",
        "int tell(int)", "int tellOf(int, int)", "int letter(int)", "boolean choose(int)", "int group()", "int about(int, int)",
        "int of(int, int, int)", "int product(int, int, int)", "int half(int, int)", "boolean within(int, int)",
        "int orbit(int, int, int)", "int wave(int, int, int, int, int)", "int cell(int, int, int, int, int, int)",
        "long reduced(int, int)", "boolean fits(int, int)", "int multiples(int, int)", "long multiple(int, int, int, int)",
        "int model(int, int)", "int atom(int, int, int)", "int placed(int, int, int)",
        "long amplitude(int, int, int, int, int)", "long distance(int, int, int)", "int near(int, int, long)",
        "int lines(int, int)", "long line(int, int, int, int)", "long map(int, int)", "int phase(int, int, long)",
        "long above(int, int)"
    };

    public static void main(String[] args) {
        Class<?> house = CrystalHouse.class;
        DUE.is("public", Modifier.isPublic(house.getModifiers()), true);
        DUE.is("final", Modifier.isFinal(house.getModifiers()), true);
        methods(house);
        fields(house);
        for (Constructor<?> made : house.getDeclaredConstructors()) {
            DUE.is("the constructor", made.toString(), "public CrystalHouse()");
        }
        DUE.is("how many classes", house.getDeclaredClasses().length <= 11, true);
        for (Class<?> inside : house.getDeclaredClasses()) {
            inside(inside);
        }
        DUE.close("the face is the document's");
    }

    private static void methods(Class<?> house) {
        Set<String> seen = new TreeSet<>();
        Set<String> names = new HashSet<>();
        for (Method method : house.getDeclaredMethods()) {
            String types = Arrays.toString(method.getParameterTypes());
            if (!Modifier.isPrivate(method.getModifiers()) && !method.isSynthetic()) {
                seen.add(method.getReturnType() + " " + method.getName() + "(" + types.substring(1, types.length() - 1) + ")");
                names.add(method.getName());
            }
            DUE.is("parameters of " + method.getName(), method.getParameterCount() <= 7, true);
        }
        DUE.is("the methods", seen.toString(), new TreeSet<>(Arrays.asList(METHODS)).toString());
        for (Method method : house.getDeclaredMethods()) {
            if (Modifier.isPrivate(method.getModifiers())) {
                DUE.is("a private method " + method.getName(), names.contains(method.getName()), false);
            }
        }
    }

    private static void fields(Class<?> house) {
        int own = 0;
        for (Field field : house.getDeclaredFields()) {
            boolean isStatic = Modifier.isStatic(field.getModifiers());
            own += isStatic ? 0 : 1;
            DUE.is("a static field is final: " + field.getName(), !isStatic || Modifier.isFinal(field.getModifiers()), true);
            DUE.is("private: " + field.getName(),
                Modifier.isPrivate(field.getModifiers()) || field.getName().equals("NONE"), true);
        }
        DUE.is("how many fields", own <= 20, true);
    }

    private static void inside(Class<?> inside) {
        DUE.is(inside + " is static", Modifier.isStatic(inside.getModifiers()), true);
        DUE.is(inside + " isn't public", Modifier.isPublic(inside.getModifiers()), false);
        fieldsInside(inside);
        for (Method method : inside.getDeclaredMethods()) {
            DUE.is("parameters of " + method.getName(), method.getParameterCount() <= 7, true);
        }
    }

    private static void fieldsInside(Class<?> inside) {
        int own = 0;
        for (Field field : inside.getDeclaredFields()) {
            boolean isStatic = Modifier.isStatic(field.getModifiers());
            own += isStatic ? 0 : 1;
            DUE.is("a static field is final: " + field.getName(), !isStatic || Modifier.isFinal(field.getModifiers()), true);
        }
        DUE.is("how many fields of " + inside, own <= 20, true);
    }
}
