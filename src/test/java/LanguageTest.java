import java.lang.reflect.Executable;
import java.lang.reflect.Field;
import java.lang.reflect.Modifier;
import java.nio.file.Files;
import java.nio.file.Path;
import java.util.ArrayList;
import java.util.List;
import java.util.Set;
import java.util.regex.Matcher;
import java.util.regex.Pattern;

/** The rules of LANGUAGE.md that can be seen in the program's text, or by reflection. */
public final class LanguageTest {
    private static final Check CHECK = new Check();
    private static final Path SOURCE = Path.of("src/main/java/ProxyForge.java");
    private static final int MOST_CLASSES = 12;
    private static final int MOST_FIELDS = 20;
    private static final int MOST_PARAMETERS = 7;
    private static final int MOST_LINES = 60;
    private static final Set<String> LIBRARY = Set.of("Arrays.copyOf", "Arrays.copyOfRange", "Arrays.fill",
            "System.arraycopy", "Math.max", "Math.min", "Math.abs", "Integer.bitCount");
    private static final Set<Class<?>> CONSTANTS =
            Set.of(int.class, long.class, boolean.class, char.class, String.class, int[].class, long[].class,
                    char[].class, byte[].class);
    private static final Set<Class<?>> SIMPLE = Set.of(int.class, long.class, byte.class, char.class, boolean.class,
            short.class, String.class);

    public static void main(String[] args) throws Exception {
        String source = Files.readString(SOURCE);
        String code = withoutTexts(source);
        oneFile();
        classes();
        types();
        library(code);
        exceptions(code);
        words(code);
        lengths(source);
        CHECK.end();
    }

    /** The program without what is written in comments and in texts. */
    private static String withoutTexts(String source) {
        String bare = source.replaceAll("\"(\\\\.|[^\"\\\\\n])*\"", "\"\"").replaceAll("'(\\\\.|[^'\\\\])'", "' '");
        return bare.replaceAll("(?s)/\\*.*?\\*/", "").replaceAll("//[^\n]*", "");
    }

    private static List<Class<?>> all() {
        List<Class<?>> all = new ArrayList<>();
        all.add(ProxyForge.class);
        for (int i = 0; i < all.size(); i++) {
            all.addAll(List.of(all.get(i).getDeclaredClasses()));
        }
        return all;
    }

    private static void oneFile() throws Exception {
        CHECK.of("The program is one file, src/main/java/ProxyForge.java, without a package line");
        try (var files = Files.walk(Path.of("src/main"))) {
            CHECK.text("files", "[" + SOURCE + "]", files.filter(Files::isRegularFile).toList().toString());
        }
        CHECK.text("package", "", ProxyForge.class.getPackageName());
    }

    private static void classes() {
        CHECK.of("At most seven parameters, some twelve classes, some twenty fields beside constants (rule 11)");
        CHECK.yes("classes are few: " + all().size(), all().size() <= MOST_CLASSES);
        for (Class<?> c : all()) {
            int fields = 0;
            for (Field f : c.getDeclaredFields()) {
                fields += Modifier.isStatic(f.getModifiers()) ? 0 : 1;
            }
            CHECK.yes("fields of " + c.getName() + " are few: " + fields, fields <= MOST_FIELDS);
            List<Executable> members = new ArrayList<>(List.of(c.getDeclaredMethods()));
            members.addAll(List.of(c.getDeclaredConstructors()));
            for (Executable m : members) {
                CHECK.yes(m + " takes few parameters", m.getParameterCount() <= MOST_PARAMETERS);
                CHECK.no(m + " is synchronized or native",
                        Modifier.isSynchronized(m.getModifiers()) || Modifier.isNative(m.getModifiers()));
            }
        }
    }

    private static void types() {
        CHECK.of("Types (rule 3); static fields are final constants (rule 5)");
        for (Class<?> c : all()) {
            for (Field f : c.getDeclaredFields()) {
                if (Modifier.isStatic(f.getModifiers())) {
                    CHECK.yes(f + " is a constant", Modifier.isFinal(f.getModifiers()) && CONSTANTS.contains(f.getType()));
                } else {
                    Class<?> type = f.getType().isArray() ? f.getType().getComponentType() : f.getType();
                    CHECK.yes(f + " has a simple type", SIMPLE.contains(type) || all().contains(type));
                }
            }
        }
    }

    private static void library(String code) {
        CHECK.of("The library: only what stands here (rule 4)");
        for (String line : code.split("\n")) {
            CHECK.yes(line, !line.startsWith("import ") || line.equals("import java.util.Arrays;"));
        }
        Matcher used = Pattern.compile("\\b(Arrays|System|Math|Integer|Long|String|StringBuilder)\\.\\w+").matcher(code);
        while (used.find()) {
            boolean isImport = code.startsWith("java.util.", Math.max(0, used.start() - "java.util.".length()));
            CHECK.yes(used.group(), isImport || LIBRARY.contains(used.group()));
        }
    }

    private static void exceptions(String code) {
        CHECK.of("Exceptions: throw new E(), E one of those that the face names; none in a constructor (rule 6)");
        Matcher thrown = Pattern.compile("\\bthrow\\b.*").matcher(code);
        while (thrown.find()) {
            CHECK.yes(thrown.group(), thrown.group().matches("throw new Illegal(Argument|State)Exception\\(\\);"));
        }
        for (String word : List.of("try", "catch", "finally")) {
            CHECK.no(word, has(code, "\\b" + word + "\\b"));
        }
    }

    private static void words(String code) {
        CHECK.of("No lambda, method reference, local class, joining by + (rules 2, 6, 10), clock or randomness (rule 13)");
        for (String word : List.of("->", "::", "\"\" \\+", "\\+ \"\"", "\\+= \"\"")) {
            CHECK.no(word, has(code, word));
        }
        for (String word : List.of("synchronized", "assert", "hashCode", "toString", "getClass", "instanceof", "volatile",
                "static \\{", "double ", "float ", "var ", "nanoTime", "currentTimeMillis", "Random", "Thread", "getenv")) {
            CHECK.no(word, has(code, "\\b" + word));
        }
    }

    private static boolean has(String code, String pattern) {
        return Pattern.compile(pattern).matcher(code).find();
    }

    /** A method begins with a line that ends in a brace, and ends with a brace that stands as far from the margin. */
    private static void lengths(String source) {
        CHECK.of("Methods stay short (rule 11)");
        String[] lines = source.split("\n");
        int methods = 0;
        for (int i = 0; i < lines.length; i++) {
            Matcher head = Pattern.compile("( {4}| {8})\\w.*\\).*\\{").matcher(lines[i]);
            if (head.matches()) {
                int end = i;
                while (!lines[end].equals(head.group(1) + "}")) {
                    end++;
                }
                methods++;
                CHECK.yes(lines[i].trim() + " is short", end - i < MOST_LINES);
            }
        }
        CHECK.yes("there are methods", methods > 100);
    }
}
