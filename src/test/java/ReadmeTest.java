import java.io.IOException;
import java.lang.reflect.InvocationTargetException;
import java.lang.reflect.Method;
import java.nio.file.Files;
import java.nio.file.Path;
import java.util.Set;
import java.util.TreeSet;
import java.util.regex.Matcher;
import java.util.regex.Pattern;

/** The calls of README.md, in their order on one object, each with the answer behind it. */
public final class ReadmeTest {
    private static final Pattern CALL = Pattern.compile("^    crane\\.(\\w+)\\((.*)\\); +// (-?\\d+)", Pattern.MULTILINE);

    public static void main(String[] args) throws IOException, ReflectiveOperationException {
        String page = Files.readString(Path.of("README.md"));
        WheelCrane crane = new WheelCrane();
        int asked = 0;
        int wrong = 0;
        for (Matcher line = CALL.matcher(page); line.find(); asked++) {
            long got = answer(crane, line.group(1), line.group(2));
            if (got != Long.parseLong(line.group(3))) {
                wrong++;
                System.out.println(line.group().trim() + " answered " + got);
            }
        }
        for (String name : publicNames()) {
            if (!page.contains("`" + name + "`")) {
                wrong++;
                System.out.println("README.md does not name " + name);
            }
        }
        if (asked < 50) {
            wrong++;
            System.out.println("README.md has only " + asked + " calls");
        }
        System.out.println(wrong == 0 ? asked + " calls of README.md answer as it says" : wrong + " faults in README.md");
        System.exit(wrong == 0 ? 0 : 1);
    }

    private static Set<String> publicNames() {
        Set<String> names = new TreeSet<>();
        for (Method method : WheelCrane.class.getMethods()) {
            if (method.getDeclaringClass() == WheelCrane.class) names.add(method.getName());
        }
        return names;
    }

    private static long answer(WheelCrane crane, String name, String numbers)
            throws IllegalAccessException, InvocationTargetException {
        String[] told = numbers.isEmpty() ? new String[0] : numbers.split(", ");
        Object[] values = new Object[told.length];
        for (int i = 0; i < told.length; i++) {
            boolean isTruth = told[i].equals("true") || told[i].equals("false");
            values[i] = isTruth ? (Object) Boolean.valueOf(told[i]) : (Object) Integer.valueOf(told[i]);
        }
        for (Method method : WheelCrane.class.getMethods()) {
            if (method.getName().equals(name) && method.getParameterCount() == told.length) {
                return ((Number) method.invoke(crane, values)).longValue();
            }
        }
        throw new IllegalArgumentException("no such call: " + name);
    }
}
