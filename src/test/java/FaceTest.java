import java.io.IOException;
import java.lang.reflect.Constructor;
import java.lang.reflect.Field;
import java.lang.reflect.Method;
import java.lang.reflect.Modifier;
import java.nio.file.Files;
import java.nio.file.Path;
import java.util.ArrayList;
import java.util.List;
import java.util.Set;
import java.util.TreeSet;
import java.util.regex.Matcher;
import java.util.regex.Pattern;

/** The public face as the document writes it out, no more and no less (LANGUAGE.md, rule 1). */
public final class FaceTest {
    private static final Path DOCUMENT = Path.of("../shared/DOC.md");

    private static int wrong;

    public static void main(String[] args) throws IOException {
        checkMethods(methodsOf(Files.readString(DOCUMENT)));
        checkConstructor();
        checkConstants();
        System.out.println(wrong == 0 ? "the face is the document's" : wrong + " parts of the face are not the document's");
        System.exit(wrong == 0 ? 0 : 1);
    }

    private static void hold(boolean good, String what) {
        if (!good) {
            wrong++;
            System.out.println("broken: " + what);
        }
    }

    /** Each method of the document's code block, as "type name(type,type)". */
    private static Set<String> methodsOf(String document) {
        String block = document.substring(document.indexOf("```java"), document.indexOf("## Terms"));
        Matcher lines = Pattern.compile("public (int|long) (\\w+)\\(([^)]*)\\);").matcher(block);
        Set<String> methods = new TreeSet<>();
        while (lines.find()) {
            String types = lines.group(3).replaceAll(" \\w+(, |$)", "$1").replace(", ", ",");
            methods.add(lines.group(1) + " " + lines.group(2) + "(" + types + ")");
        }
        hold(methods.size() == 45, "the document has 45 methods, not " + methods.size());
        return methods;
    }

    private static void checkMethods(Set<String> due) {
        Set<String> got = new TreeSet<>();
        for (Method method : WheelCrane.class.getDeclaredMethods()) {
            if (Modifier.isPublic(method.getModifiers())) {
                List<String> types = new ArrayList<>();
                for (Class<?> type : method.getParameterTypes()) types.add(type.getName());
                got.add(method.getReturnType().getName() + " " + method.getName() + "(" + String.join(",", types) + ")");
                hold(!Modifier.isStatic(method.getModifiers()), "static: " + method.getName());
            } else {
                hold(Modifier.isPrivate(method.getModifiers()), "not private: " + method.getName());
            }
        }
        hold(due.equals(got), "the public methods are " + got);
    }

    private static void checkConstructor() {
        int modifiers = WheelCrane.class.getModifiers();
        hold(Modifier.isPublic(modifiers) && Modifier.isFinal(modifiers), "the class is public and final");
        hold(WheelCrane.class.getSuperclass() == Object.class && WheelCrane.class.getInterfaces().length == 0,
                "the class is of no other kind");
        Constructor<?>[] constructors = WheelCrane.class.getDeclaredConstructors();
        hold(constructors.length == 1 && Modifier.isPublic(constructors[0].getModifiers())
                && constructors[0].getParameterCount() == 0, "the constructor");
    }

    private static void checkConstants() {
        Set<String> open = new TreeSet<>();
        for (Field field : WheelCrane.class.getDeclaredFields()) {
            if (!Modifier.isPublic(field.getModifiers())) {
                hold(Modifier.isPrivate(field.getModifiers()), "not private: " + field.getName());
                continue;
            }
            open.add(field.getName());
            boolean isConstant = Modifier.isStatic(field.getModifiers()) && Modifier.isFinal(field.getModifiers());
            hold(isConstant && field.getType() == int.class, "a constant of int: " + field.getName());
        }
        hold(open.equals(Set.of("NONE", "BAD", "NO", "FULL")), "the public fields are " + open);
        hold(WheelCrane.NONE == -1 && WheelCrane.BAD == -2 && WheelCrane.NO == -3 && WheelCrane.FULL == -4,
                "the numbers of the constants");
    }
}
