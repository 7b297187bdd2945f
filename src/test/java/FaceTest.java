import java.lang.reflect.Constructor;
import java.lang.reflect.Field;
import java.lang.reflect.Method;
import java.lang.reflect.Modifier;
import java.util.ArrayList;
import java.util.Arrays;
import java.util.Collections;
import java.util.List;

/** The face is the document's, and nothing else can be seen of the class. */
public final class FaceTest {
    private static final String FACE = "back() black(int,int,int) cell(int,int) count(int) cover(int,boolean) "
        + "dry(int) drying(int,int) enough(int,int,int) evening(int,int) fault() fuel(int,int) grit(int,int,int) "
        + "keep() lay() lies(int,int,int,int) light(int) minute(int) noSpots() of(int,int,int,int) pot(int,int) "
        + "rake(int,int) run(int,int,int) sherd(int,int,int,int) spot(int) take(int) ten(int,int,int) wipe() "
        + "write(int,long)";

    private static int wrong = 0;

    private static void due(String what, Object got, Object want) {
        if (!got.equals(want)) {
            wrong++;
            System.out.println(what + " is " + got + ", due is " + want);
        }
    }

    private static String told(Method method) {
        List<String> types = new ArrayList<>();
        for (Class<?> type : method.getParameterTypes()) types.add(type.getName());
        return method.getName() + "(" + String.join(",", types) + ")";
    }

    public static void main(String[] args) {
        Class<?> face = PotBonfire.class;
        due("the class's modifiers", Modifier.toString(face.getModifiers()), "public final");
        List<String> seen = new ArrayList<>();
        List<String> names = new ArrayList<>();
        for (Method method : face.getDeclaredMethods()) {
            if (method.isSynthetic() || Modifier.isPrivate(method.getModifiers())) continue;
            seen.add(told(method));
            names.add(method.getName());
            due(method.getName() + "'s modifiers", Modifier.toString(method.getModifiers()), "public");
            due(method.getName() + "'s type", method.getReturnType().getName(), "int");
        }
        Collections.sort(seen);
        due("the face", seen, Arrays.asList(FACE.split(" ")));
        for (Method method : face.getDeclaredMethods()) {
            boolean hides = Modifier.isPrivate(method.getModifiers()) && names.contains(method.getName());
            due("a private method of the name " + method.getName(), hides, false);
        }
        seen.clear();
        for (Field field : face.getDeclaredFields()) {
            int modifiers = field.getModifiers();
            if (!Modifier.isPrivate(modifiers)) seen.add(Modifier.toString(modifiers) + " " + field.getName());
            if (Modifier.isStatic(modifiers)) due(field.getName() + " is final", Modifier.isFinal(modifiers), true);
        }
        Collections.sort(seen);
        due("the constants", seen, Arrays.asList("public static final BAD", "public static final FULL",
            "public static final NO", "public static final NONE"));
        due("how many constructors", face.getDeclaredConstructors().length, 1);
        for (Constructor<?> constructor : face.getDeclaredConstructors()) {
            due("the constructor", Modifier.toString(constructor.getModifiers()) + constructor.getParameterCount(),
                "public0");
        }
        for (Class<?> inside : face.getDeclaredClasses()) {
            due(inside.getName() + " is static", Modifier.isStatic(inside.getModifiers()), true);
        }
        System.out.println(wrong == 0 ? "the face is as due" : wrong + " faults of the face");
        if (wrong != 0) System.exit(1);
    }
}
