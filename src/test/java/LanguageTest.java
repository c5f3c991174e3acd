import java.io.IOException;
import java.lang.reflect.Constructor;
import java.lang.reflect.Field;
import java.lang.reflect.Method;
import java.lang.reflect.Modifier;
import java.nio.charset.StandardCharsets;
import java.nio.file.Files;
import java.nio.file.Path;
import java.util.List;
import java.util.Set;
import java.util.TreeSet;
import java.util.regex.Matcher;
import java.util.regex.Pattern;

/** The rules of LANGUAGE.md that can be seen from the class's face and from its lines. */
public final class LanguageTest {
    private static final Bench BENCH = new Bench("LanguageTest");
    private static final String FACE = "album(int,int) bound(int) check(int) count(int) days(int) edits(int) "
            + "family(int) feed(int,int,int,int,int) figureIs(int,int) fold(int) frames(int,boolean) keep() law(int) "
            + "mirror() offcuts(int,int,int) pages(int,int) pain(int,int) personIs(int,int) print(int) printIs(int) "
            + "seed(int) shows(int,int,int,int,int) sky(int) smallest(int,int) smallestOf(int,int) today(int) "
            + "told(int,int,int,int) tried(int,int) undo() without(int,int)";

    public static void main(String[] args) throws IOException {
        face();
        classes();
        source(Files.readString(Path.of(System.getProperty("margin.source", "src/main/java/MarginAlbum.java")),
                StandardCharsets.ISO_8859_1));
        BENCH.end();
    }

    private static void holds(String rule, boolean held) {
        BENCH.due(rule, held, true);
    }

    private static void face() {
        TreeSet<String> found = new TreeSet<>();
        for (Method method : MarginAlbum.class.getDeclaredMethods()) {
            if (!Modifier.isPrivate(method.getModifiers())) {
                String all = method.toString();
                found.add(all.substring(all.lastIndexOf("MarginAlbum.") + 12));
                holds(method + " is public", Modifier.isPublic(method.getModifiers()));
            }
        }
        String text = String.join(" ", found);
        if (!text.equals(FACE)) {
            System.out.println("the face is " + text);
        }
        holds("the face is the document's", text.equals(FACE));
        holds("final and public", Modifier.isFinal(MarginAlbum.class.getModifiers())
                && Modifier.isPublic(MarginAlbum.class.getModifiers()));
        holds("one constructor", MarginAlbum.class.getDeclaredConstructors().length == 1);
        for (Field field : MarginAlbum.class.getDeclaredFields()) {
            holds(field + " is private", Modifier.isPrivate(field.getModifiers()) != field.getName().equals("NONE"));
        }
    }

    private static void classes() {
        Class<?>[] inside = MarginAlbum.class.getDeclaredClasses();
        holds("at most twelve classes", inside.length + 1 <= 12);
        for (Class<?> one : inside) {
            int modifiers = one.getModifiers();
            holds(one + " is static and not public", Modifier.isStatic(modifiers)
                    && !Modifier.isPublic(modifiers) && !Modifier.isProtected(modifiers));
            holds(one + " has no class inside", one.getDeclaredClasses().length == 0);
            for (Method method : one.getDeclaredMethods()) {
                holds(method + " has a name of its own", !(" " + FACE).contains(" " + method.getName() + "("));
            }
            rows(one);
        }
        rows(MarginAlbum.class);
    }

    private static void rows(Class<?> one) {
        int fields = 0;
        for (Field field : one.getDeclaredFields()) {
            boolean isStatic = Modifier.isStatic(field.getModifiers());
            fields += isStatic ? 0 : 1;
            holds(field + " is final if static", !isStatic || Modifier.isFinal(field.getModifiers()));
        }
        holds(one + " has some twenty fields", fields <= 20);
        for (Method method : one.getDeclaredMethods()) {
            holds(method + " takes seven at most", method.getParameterCount() <= 7);
        }
        for (Constructor<?> constructor : one.getDeclaredConstructors()) {
            holds(constructor + " takes seven at most", constructor.getParameterCount() <= 7);
        }
    }

    private static void source(String source) {
        String bare = source.replaceAll("(?s)/\\*.*?\\*/", "").replaceAll("//[^\n]*", "");
        List<String> words = List.of("throw", "throws", "try", "catch", "synchronized", "assert", "instanceof", "package",
                "Object", "Random", "System.out", "System.exit", "Thread", "equals", "hashCode", "toString");
        for (String word : words) {
            holds("no " + word, !Pattern.compile("\\b" + Pattern.quote(word) + "\\b").matcher(bare).find());
        }
        holds("no lambda or reference", !bare.contains("->") && !bare.contains("::"));
        holds("no text", !bare.contains("\""));
        Matcher imports = Pattern.compile("import ([^;]*);").matcher(bare);
        while (imports.find()) {
            holds("import of " + imports.group(1), imports.group(1).equals("java.util.Arrays"));
        }
        Set<String> library = Set.of("Arrays.fill", "System.arraycopy", "Math.min", "Math.max", "Math.abs",
                "Integer.bitCount");
        Matcher calls = Pattern.compile("\\b(Arrays|System|Math|Integer|Long|String|Character)\\.\\w+").matcher(bare);
        while (calls.find()) {
            holds("the library's " + calls.group(), library.contains(calls.group()));
        }
        Matcher made = Pattern.compile("\\n( +)[^\\n]*\\bnew\\b").matcher(bare);
        while (made.find()) {
            holds("made in a field only: " + made.group().trim(), made.group().contains("private final")
                    || made.group().contains("final Figures"));
        }
        methodLengths(source.split("\n"));
    }

    private static void methodLengths(String[] lines) {
        int begin = 0;
        for (int i = 0; i < lines.length; i++) {
            boolean ends = lines[i].equals("    }") || lines[i].equals("        }");
            if (lines[i].matches(" {4}( {4})?(?!private (abstract )?static (final )?class)[\\w<>\\[\\] ]+\\(.*\\{")) {
                begin = i;
            } else if (ends) {
                holds("short: " + lines[begin].trim(), i - begin <= 60 || lines[begin].contains("class"));
            }
        }
    }
}
