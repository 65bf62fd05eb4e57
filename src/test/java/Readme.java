import java.lang.reflect.Method;
import java.lang.reflect.Modifier;
import java.net.URL;
import java.net.URLClassLoader;
import java.nio.charset.StandardCharsets;
import java.nio.file.Files;
import java.nio.file.Path;
import java.nio.file.Paths;
import java.util.ArrayList;
import java.util.List;
import java.util.regex.Matcher;
import java.util.regex.Pattern;
import javax.tools.ToolProvider;

/** Compiles and runs what README.md shows of how the class is used: each call must answer what stands behind its line. */
public final class Readme extends Checks {
    private static final Pattern ANSWER = Pattern.compile("(?s)^(int|boolean) (\\w+) = .*; +// (\\S+)$");

    private Readme() {
    }

    public static void main(String[] args) throws Exception {
        about = "README.md";
        String text = new String(Files.readAllBytes(Paths.get("README.md")), StandardCharsets.UTF_8);
        List<String> blocks = new ArrayList<>();
        Matcher block = Pattern.compile("(?s)```java\n(.*?)```").matcher(text);
        while (block.find()) {
            blocks.add(block.group(1));
        }
        is("blocks of Java: how a text is read, and an example", blocks.size(), 2);
        if (blocks.size() == 2) {
            List<String> names = new ArrayList<>();
            List<String> due = new ArrayList<>();
            runExample(sourceOf(blocks.get(0), blocks.get(1), names, due), names, due);
        }
        is("is every call named? " + unnamed(text), unnamed(text).isEmpty(), true);
        end("Readme");
    }

    /** A class whose answers() are what the example's lines came to, in their order. */
    private static String sourceOf(String helper, String example, List<String> names, List<String> due) {
        // a call may stand on more lines than one: its answer stands behind the last of them
        StringBuilder line = new StringBuilder();
        for (String part : example.split("\n")) {
            line.append(line.length() > 0 ? "\n" : "").append(part);
            if (!part.isEmpty() && !part.contains(";") && !part.startsWith("//")) {
                continue;
            }
            Matcher answer = ANSWER.matcher(line.toString());
            if (answer.find()) {
                names.add(answer.group(2));
                due.add(answer.group(3));
            }
            line.setLength(0);
        }
        StringBuilder all = new StringBuilder("public final class ReadmeExample {\n");
        all.append(helper).append("public static Object[] answers() {\n").append(example).append("return new Object[] {");
        all.append(String.join(", ", names)).append("};\n}\n}\n");
        return all.toString();
    }

    private static void runExample(String source, List<String> names, List<String> due) throws Exception {
        Path folder = Files.createTempDirectory("readme");
        Path file = folder.resolve("ReadmeExample.java");
        Files.write(file, source.getBytes(StandardCharsets.UTF_8));
        int code = ToolProvider.getSystemJavaCompiler().run(null, null, null, "-cp",
            System.getProperty("java.class.path"), "-d", folder.toString(), file.toString());
        is("does the example compile?", code, 0);
        if (code == 0) {
            try (URLClassLoader loader = new URLClassLoader(new URL[] {folder.toUri().toURL()})) {
                Object[] got = (Object[]) loader.loadClass("ReadmeExample").getMethod("answers").invoke(null);
                for (int i = 0; i < got.length; i++) {
                    boolean so = got[i].toString().equals(due.get(i));
                    is(names.get(i) + ", which is told as " + due.get(i) + ", is " + got[i], so, true);
                }
            }
        }
        for (String name : new String[] {"ReadmeExample.class", "ReadmeExample.java", ""}) {
            Files.deleteIfExists(folder.resolve(name));
        }
    }

    private static List<String> unnamed(String text) {
        List<String> names = new ArrayList<>();
        for (Method method : RopeDance.class.getDeclaredMethods()) {
            boolean isPublic = Modifier.isPublic(method.getModifiers());
            if (isPublic && !text.contains("`" + method.getName() + "` ")) {
                names.add(method.getName());
            }
        }
        return names;
    }
}
