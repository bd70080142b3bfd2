import java.lang.reflect.Modifier;
import java.nio.file.Files;
import java.nio.file.Path;
import java.util.Arrays;
import java.util.Set;
import java.util.TreeSet;
import java.util.regex.Matcher;
import java.util.regex.Pattern;

/** What of the language's rules can be seen from the source and from the class. */
public final class LanguageTest {
    private static final String[] FORBIDDEN = {"throw", "throws", "try", "catch", "finally", "synchronized", "assert",
        "protected", "Object", "equals", "hashCode", "toString", "System\\.out", "System\\.exit", "System\\.nanoTime",
        "Random", "Thread", "->", "::", "var", "double", "float", "volatile", "native", "Exact", "static \\{"};
    private static int wrong = 0;

    public static void main(String[] args) throws Exception {
        String source = Files.readString(Path.of("src/main/java/GalleyStroke.java"));
        String code = source.replaceAll("(?s)/\\*.*?\\*/", "").replaceAll("//[^\n]*", "")
            .replaceAll("\"[^\"\n]*\"", "\"\"");
        for (String word : FORBIDDEN) {
            Matcher m = Pattern.compile(word.matches("\\w+") ? "\\b" + word + "\\b" : word).matcher(code);
            refuse(m.find(), "rule 4 or 6: " + word);
        }
        refuse(Pattern.compile("import (?!java\\.util\\.Arrays;)").matcher(code).find(), "rule 4: an import");
        refuse(Pattern.compile("^package", Pattern.MULTILINE).matcher(code).find(), "a package line");
        face();
        classes();
        methodLengths(source);
        System.out.println(wrong == 0 ? "the rules are kept" : wrong + " rules are broken");
        if (wrong != 0) {
            System.exit(1);
        }
    }

    private static void refuse(boolean broken, String rule) {
        if (broken) {
            wrong++;
            System.out.println(rule);
        }
    }

    private static void face() {
        Set<String> open = new TreeSet<>();
        Set<String> closed = new TreeSet<>();
        Arrays.stream(GalleyStroke.class.getDeclaredMethods())
            .forEach(m -> (Modifier.isPublic(m.getModifiers()) ? open : closed).add(m.getName()));
        refuse(open.size() != 32, "rule 1: the face has " + open.size() + " methods");
        Arrays.stream(GalleyStroke.class.getDeclaredFields())
            .filter(f -> !Modifier.isPrivate(f.getModifiers()) && !f.getName().equals("NONE"))
            .forEach(f -> refuse(true, "rule 1: " + f));
        Arrays.stream(GalleyStroke.class.getDeclaredMethods())
            .filter(m -> !Modifier.isPublic(m.getModifiers()) && !Modifier.isPrivate(m.getModifiers()))
            .forEach(m -> refuse(true, "rule 1: " + m));
        for (Class<?> inner : GalleyStroke.class.getDeclaredClasses()) {
            Arrays.stream(inner.getDeclaredMethods()).forEach(m -> closed.add(m.getName()));
        }
        closed.retainAll(open);
        refuse(!closed.isEmpty(), "rule 1: names of public methods: " + closed);
    }

    private static void classes() {
        Class<?>[] inner = GalleyStroke.class.getDeclaredClasses();
        refuse(inner.length > 11, "rule 11: " + inner.length + " classes inside");
        for (Class<?> c : inner) {
            refuse(!Modifier.isStatic(c.getModifiers()), "rule 2: " + c);
            long fields = Arrays.stream(c.getDeclaredFields()).filter(f -> !Modifier.isStatic(f.getModifiers())).count();
            refuse(fields > 20, "rule 11: " + fields + " fields of " + c);
            Arrays.stream(c.getDeclaredFields())
                .filter(f -> Modifier.isStatic(f.getModifiers()) && !Modifier.isFinal(f.getModifiers()))
                .forEach(f -> refuse(true, "rule 5: " + f));
            Arrays.stream(c.getDeclaredMethods()).filter(m -> m.getParameterCount() > 7)
                .forEach(m -> refuse(true, "rule 11: " + m));
        }
    }

    private static void methodLengths(String source) {
        String[] lines = source.split("\n");
        for (int i = 0; i < lines.length; i++) {
            if (lines[i].matches("\\s+[\\w\\[\\] ]+\\(.*\\) \\{") && !lines[i].trim().matches("(if|for|while|switch).*")) {
                String end = lines[i].replaceAll("\\S.*", "") + "}";
                int last = i;
                while (last < lines.length && !lines[last].equals(end)) {
                    last++;
                }
                refuse(last - i > 60, "rule 11: " + (last - i) + " lines: " + lines[i].trim());
            }
        }
    }
}
