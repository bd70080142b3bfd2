import java.net.URL;
import java.net.URLClassLoader;
import java.nio.file.Files;
import java.nio.file.Path;
import java.util.ArrayList;
import java.util.List;
import java.util.regex.Matcher;
import java.util.regex.Pattern;
import javax.tools.ToolProvider;

/** The Java of README.md is compiled and run: each call must answer what stands behind its //. */
public final class ReadmeTest {
    private static final Pattern BLOCK = Pattern.compile("(?s)```java\n(.*?)```");
    private static final Pattern CALL = Pattern.compile("(.*\\)); *// (-?\\d+|true|false)(: .*)?");
    private static final int LEAST_CALLS = 20;

    private ReadmeTest() {
    }

    public static void main(String[] args) throws Exception {
        List<String> blocks = new ArrayList<>();
        Matcher block = BLOCK.matcher(Files.readString(Path.of("README.md")));
        while (block.find()) {
            blocks.add(block.group(1));
        }
        int wrong = blocks.size() == 2 ? run(blocks.get(0), blocks.get(1)) : 1;
        System.out.println(wrong == 0 ? "the README holds" : wrong + " lines of the README do not hold");
        if (wrong != 0) {
            System.exit(1);
        }
    }

    private static int run(String helper, String calls) throws Exception {
        Path room = Files.createTempDirectory("readme");
        Path source = room.resolve("Example.java");
        for (Path made : List.of(room, source, room.resolve("Example.class"))) {
            made.toFile().deleteOnExit();
        }
        Files.writeString(source, "public class Example {\n" + helper
            + "public static int wrong() {\nint wrong = 0;\n" + checked(calls) + "return wrong;\n}\n}\n");
        int refused = ToolProvider.getSystemJavaCompiler().run(null, null, null, "-d", room.toString(), "-cp",
            System.getProperty("java.class.path"), source.toString());
        if (refused != 0) {
            return 1;
        }
        try (URLClassLoader loader = new URLClassLoader(new URL[] {room.toUri().toURL()})) {
            return (int) loader.loadClass("Example").getMethod("wrong").invoke(null);
        }
    }

    private static String checked(String calls) {
        StringBuilder code = new StringBuilder();
        int many = 0;
        for (String line : calls.split("\n")) {
            Matcher call = CALL.matcher(line);
            if (call.matches()) {
                many++;
                String told = line.replace("\\", "\\\\").replace("\"", "\\\"");
                code.append("if (").append(call.group(1)).append(" != ").append(call.group(2))
                    .append(") { wrong++; System.out.println(\"not so: ").append(told).append("\"); }\n");
            } else {
                code.append(line).append("\n");
            }
        }
        return many < LEAST_CALLS ? "wrong++;\n" + code : code.toString();
    }
}
