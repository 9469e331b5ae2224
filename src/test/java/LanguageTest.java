import java.io.IOException;
import java.lang.reflect.Constructor;
import java.lang.reflect.Field;
import java.lang.reflect.Method;
import java.lang.reflect.Modifier;
import java.nio.file.Files;
import java.nio.file.Path;
import java.util.ArrayList;
import java.util.HashSet;
import java.util.List;
import java.util.Set;
import java.util.TreeSet;
import java.util.regex.Matcher;
import java.util.regex.Pattern;

/** The face of the document, and those rules of LANGUAGE.md that a look at the file can tell. */
public final class LanguageTest {
    private static final String SOURCE = "src/main/java/WheelCrane.java";
    private static final String[] FACE = {
        "int wheel(int,int,int,int)", "int winds(int,int)", "int lift(int)", "int steps(int)", "int layer(int,int)",
        "int man(int)", "int breath(int)", "int rest(int)", "int can(int,int,int)", "int fewest(int,int)",
        "int hoist(int,int,int,int)", "int rope(int)", "int wet(int,boolean)", "int about(int,int)", "int pull(int,int)",
        "int load(int)", "int clear()", "int bears(int)", "int blamed(int,int)", "int stone(int,int,int,int)",
        "int arched(int,int)", "int centrings(int)", "int stand(int,int,int)", "int price(int,int,int)", "int reach(int,int)",
        "int reaches(int,int)", "int may(int,int)", "long orders()", "int plan()", "int act(int)", "int light(int,int,int)",
        "int frost(int,boolean)", "int mortar(int)", "int laid(int)", "int end()", "int worst(int,int,int)", "int shape()",
        "int corner(int,int)", "int area()", "long middle(int)", "long tilt(int,int,int,int,int)",
        "int steady(int,int,int,int)", "int holes()", "int count(int)", "long digest()"};

    private static int wrong;

    public static void main(String[] args) throws IOException {
        String code = withoutComments(Files.readString(Path.of(SOURCE)));
        checkFace();
        checkNested();
        checkWords(code);
        checkMethods(code);
        System.out.println(wrong == 0 ? "the file keeps to the rules that were looked at" : wrong + " rules are broken");
        System.exit(wrong == 0 ? 0 : 1);
    }

    private static void hold(boolean good, String what) {
        if (!good) {
            wrong++;
            System.out.println("broken: " + what);
        }
    }

    private static String withoutComments(String text) {
        return text.replaceAll("(?s)/\\*.*?\\*/", " ").replaceAll("//[^\n]*", " ");
    }

    private static void checkFace() {
        Set<String> due = new TreeSet<>(List.of(FACE));
        Set<String> got = new TreeSet<>();
        for (Method method : WheelCrane.class.getDeclaredMethods()) {
            if (method.isSynthetic()) continue;
            if (Modifier.isPublic(method.getModifiers())) {
                List<String> types = new ArrayList<>();
                for (Class<?> type : method.getParameterTypes()) types.add(type.getName());
                got.add(method.getReturnType().getName() + " " + method.getName() + "(" + String.join(",", types) + ")");
            } else {
                hold(Modifier.isPrivate(method.getModifiers()), "rule 1: not private: " + method.getName());
            }
        }
        hold(due.equals(got), "rule 1: the public methods are " + got);
        hold(Modifier.isFinal(WheelCrane.class.getModifiers()), "rule 1: the class is not final");
        Constructor<?>[] constructors = WheelCrane.class.getDeclaredConstructors();
        hold(constructors.length == 1 && Modifier.isPublic(constructors[0].getModifiers())
                && constructors[0].getParameterCount() == 0, "rule 1: the constructor");
        Set<String> open = new TreeSet<>();
        for (Field field : WheelCrane.class.getDeclaredFields()) {
            if (Modifier.isPublic(field.getModifiers())) open.add(field.getName());
            else hold(Modifier.isPrivate(field.getModifiers()), "rule 1: not private: " + field.getName());
        }
        hold(open.equals(Set.of("NONE", "BAD", "NO", "FULL")), "rule 1: the public fields are " + open);
    }

    private static void checkNested() {
        Set<String> face = new HashSet<>();
        for (String method : FACE) face.add(method.substring(method.indexOf(' ') + 1, method.indexOf('(')));
        List<Class<?>> classes = new ArrayList<>(List.of(WheelCrane.class.getDeclaredClasses()));
        classes.add(WheelCrane.class);
        hold(classes.size() <= 12, "rule 11: " + classes.size() + " classes");
        for (Class<?> type : classes) {
            String name = type.getSimpleName();
            hold(type == WheelCrane.class || Modifier.isStatic(type.getModifiers()), "rule 2: not static: " + name);
            int fields = 0;
            for (Field field : type.getDeclaredFields()) {
                boolean isStatic = Modifier.isStatic(field.getModifiers());
                if (!isStatic) fields++;
                hold(!isStatic || Modifier.isFinal(field.getModifiers()), "rule 5: not final: " + name + "." + field.getName());
            }
            hold(fields <= 20, "rule 11: " + fields + " fields in " + name);
            for (Method method : type.getDeclaredMethods()) {
                hold(method.getParameterCount() <= 7, "rule 11: parameters of " + method.getName());
                boolean hidden = Modifier.isPrivate(method.getModifiers()) && face.contains(method.getName());
                hold(!hidden, "rule 1: a private method bears the name of a public one: " + method.getName());
            }
        }
    }

    private static void checkWords(String code) {
        for (String word : new String[] {"throw", "throws", "try", "catch", "finally", "synchronized", "assert", "package",
            "protected", "native", "volatile", "double", "float", "instanceof", "Object", "Random", "Thread", "File", "Exception"}) {
            hold(!Pattern.compile("\\b" + word + "\\b").matcher(code).find(), "rules 3, 6, 13: the word " + word);
        }
        hold(!code.contains("->") && !code.contains("::"), "rule 2: a lambda or a method reference");
        hold(!code.contains("Exact("), "rule 4: a function whose name ends in Exact");
        hold(!Pattern.compile("static\\s*\\{").matcher(code).find(), "rule 5: a static initialiser");
        Matcher imports = Pattern.compile("import\\s+([\\w.]+);").matcher(code);
        while (imports.find()) hold(imports.group(1).equals("java.util.Arrays"), "rule 4: import of " + imports.group(1));
        Matcher library = Pattern.compile("\\b(Math|Integer|Long|Arrays|System)\\.(\\w+)").matcher(code);
        Set<String> allowed = Set.of("Math.max", "Math.min", "Math.abs", "Integer.bitCount", "Arrays.fill");
        while (library.find()) hold(allowed.contains(library.group()), "rule 4: " + library.group());
        for (char sign : code.toCharArray()) hold(sign < 128, "rule 3: the sign " + (int) sign);
    }

    /** Methods end at the brace that is as deep as their own line. */
    private static void checkMethods(String code) {
        String[] lines = code.split("\n");
        for (int i = 0; i < lines.length; i++) {
            Matcher head = Pattern.compile("^( {4}| {8})(?! |return|else)[\\w\\[\\] ]*\\w\\(.*\\{$").matcher(lines[i]);
            if (!head.find()) continue;
            int end = i;
            while (end < lines.length && !lines[end].equals(head.group(1) + "}")) end++;
            hold(end - i <= 60, "rule 11: a method of " + (end - i) + " lines: " + lines[i].trim());
        }
    }
}
