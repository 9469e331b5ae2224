import java.lang.reflect.Constructor;
import java.lang.reflect.Field;
import java.lang.reflect.Method;
import java.lang.reflect.Modifier;
import java.util.ArrayList;
import java.util.List;
import java.util.Set;
import java.util.TreeSet;

/** The public face as the document writes it out, no more and no less (LANGUAGE.md, rule 1). */
public final class FaceTest {
    private static final Set<String> METHODS = Set.of(
        "int wheel(int,int,int,int)", "int winds(int,int)", "int lift(int)", "int steps(int)", "int layer(int,int)",
        "int man(int)", "int breath(int)", "int rest(int)", "int can(int,int,int)", "int fewest(int,int)",
        "int hoist(int,int,int,int)", "int rope(int)", "int wet(int,boolean)", "int about(int,int)", "int pull(int,int)",
        "int load(int)", "int clear()", "int bears(int)", "int blamed(int,int)", "int stone(int,int,int,int)",
        "int arched(int,int)", "int centrings(int)", "int stand(int,int,int)", "int price(int,int,int)", "int reach(int,int)",
        "int reaches(int,int)", "int may(int,int)", "long orders()", "int plan()", "int act(int)", "int light(int,int,int)",
        "int frost(int,boolean)", "int mortar(int)", "int laid(int)", "int end()", "int worst(int,int,int)", "int shape()",
        "int corner(int,int)", "int area()", "long middle(int)", "long tilt(int,int,int,int,int)",
        "int steady(int,int,int,int)", "int holes()", "int count(int)", "long digest()");

    private static int wrong;

    public static void main(String[] args) {
        checkMethods();
        checkConstructor();
        checkConstants();
        System.out.println(wrong == 0 ? "the face is the document's" : wrong + " parts of the face are not the document's");
        System.exit(wrong == 0 ? 0 : 1);
    }

    private static void hold(boolean good, String what) {
        if (!good) {
            wrong++;
            System.out.println("broken: " + what);
        }
    }

    private static void checkMethods() {
        Set<String> got = new TreeSet<>();
        for (Method method : WheelCrane.class.getDeclaredMethods()) {
            if (Modifier.isPublic(method.getModifiers())) {
                List<String> types = new ArrayList<>();
                for (Class<?> type : method.getParameterTypes()) types.add(type.getName());
                got.add(method.getReturnType().getName() + " " + method.getName() + "(" + String.join(",", types) + ")");
                hold(!Modifier.isStatic(method.getModifiers()), "static: " + method.getName());
            } else {
                hold(Modifier.isPrivate(method.getModifiers()), "not private: " + method.getName());
            }
        }
        hold(METHODS.equals(got), "the public methods are " + got);
    }

    private static void checkConstructor() {
        int modifiers = WheelCrane.class.getModifiers();
        hold(Modifier.isPublic(modifiers) && Modifier.isFinal(modifiers), "the class is public and final");
        hold(WheelCrane.class.getSuperclass() == Object.class && WheelCrane.class.getInterfaces().length == 0,
                "the class is of no other kind");
        Constructor<?>[] constructors = WheelCrane.class.getDeclaredConstructors();
        hold(constructors.length == 1 && Modifier.isPublic(constructors[0].getModifiers())
                && constructors[0].getParameterCount() == 0, "the constructor");
    }

    private static void checkConstants() {
        Set<String> open = new TreeSet<>();
        for (Field field : WheelCrane.class.getDeclaredFields()) {
            if (!Modifier.isPublic(field.getModifiers())) {
                hold(Modifier.isPrivate(field.getModifiers()), "not private: " + field.getName());
                continue;
            }
            open.add(field.getName());
            boolean isConstant = Modifier.isStatic(field.getModifiers()) && Modifier.isFinal(field.getModifiers());
            hold(isConstant && field.getType() == int.class, "a constant of int: " + field.getName());
        }
        hold(open.equals(Set.of("NONE", "BAD", "NO", "FULL")), "the public fields are " + open);
        hold(WheelCrane.NONE == -1 && WheelCrane.BAD == -2 && WheelCrane.NO == -3 && WheelCrane.FULL == -4,
                "the numbers of the constants");
    }
}
