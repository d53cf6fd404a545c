import java.lang.reflect.InvocationTargetException;
import java.lang.reflect.Method;
import java.lang.reflect.Modifier;
import java.nio.file.Files;
import java.nio.file.Path;
import java.util.Set;
import java.util.TreeSet;
import java.util.regex.Matcher;
import java.util.regex.Pattern;

/** README.md: each call of its run answers as it is told there, and none of the face is left out. */
public final class ReadmeTest {
    private static final Check CHECK = new Check();
    private static final Pattern CALL = Pattern.compile("forge\\.(\\w+)\\((.*?)\\); +// ([^:]+)(:.*)?");

    public static void main(String[] args) throws Exception {
        CHECK.of("README.md: a short run of calls with their answers");
        String text = Files.readString(Path.of("README.md"));
        int start = text.indexOf("```java\n");
        int end = text.indexOf("```\n", start + 1);
        CHECK.yes("there is a run", start >= 0 && end > start);
        String[] lines = text.substring(start, end).split("\n");
        CHECK.text("how it begins", "ProxyForge forge = new ProxyForge();", lines[1]);
        ProxyForge forge = new ProxyForge();
        Set<String> left = names();
        for (int i = 2; i < lines.length; i++) {
            Matcher call = CALL.matcher(lines[i]);
            CHECK.yes(lines[i] + " is a call with an answer", call.matches());
            CHECK.text(lines[i], call.group(3), answer(forge, call.group(1), call.group(2)));
            left.remove(call.group(1));
        }
        CHECK.text("what is not shown", "[]", left.toString());
        CHECK.end();
    }

    private static Set<String> names() {
        Set<String> names = new TreeSet<>();
        for (Method m : ProxyForge.class.getDeclaredMethods()) {
            if (Modifier.isPublic(m.getModifiers())) {
                names.add(m.getName());
            }
        }
        return names;
    }

    private static String answer(ProxyForge forge, String name, String arguments) throws IllegalAccessException {
        for (Method m : ProxyForge.class.getDeclaredMethods()) {
            if (m.getName().equals(name)) {
                try {
                    Object got = m.invoke(forge, values(m.getParameterTypes(), arguments));
                    return got == null ? "nothing" : got.toString();
                } catch (InvocationTargetException e) {
                    return "throws " + e.getCause().getClass().getSimpleName();
                }
            }
        }
        return "no such method";
    }

    private static Object[] values(Class<?>[] kinds, String arguments) {
        String[] parts = arguments.isEmpty() ? new String[0] : arguments.split(", ");
        Object[] values = new Object[parts.length];
        for (int i = 0; i < parts.length; i++) {
            if (kinds[i] == boolean.class) {
                values[i] = Boolean.valueOf(parts[i]);
            } else if (kinds[i] == long.class) {
                values[i] = Long.valueOf(parts[i]);
            } else {
                values[i] = Integer.valueOf(parts[i]);
            }
        }
        return values;
    }
}
