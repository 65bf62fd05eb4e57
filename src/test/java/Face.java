import java.nio.charset.StandardCharsets;
import java.nio.file.Files;
import java.nio.file.Path;
import java.nio.file.Paths;
import java.util.ArrayList;
import java.util.List;
import java.util.regex.Matcher;
import java.util.regex.Pattern;

/** 'The public face' of the document, line by line, and that each promise is about a member of it. */
public final class Face extends Checks {
    private Face() {
    }

    public static void main(String[] args) throws Exception {
        String source = textOf(Paths.get("src/main/java/RopeDance.java"));
        Path file = Paths.get("../shared/DOC.md");
        if (Files.exists(file)) {
            String document = textOf(file);
            List<String> face = faceOf(document);
            standsInClass(face, source);
            isPromised(face, document);
        } else {
            System.out.println("there is no " + file + ": the face was not looked up");
        }
        about = "'The public face': public static final int NONE = -1;";
        is("NONE", RopeDance.NONE, -1);
        end("Face");
    }

    private static String textOf(Path file) throws Exception {
        return new String(Files.readAllBytes(file), StandardCharsets.UTF_8);
    }

    private static List<String> faceOf(String document) {
        Matcher block = Pattern.compile("(?s)## The public face\\s+```java\n(.*?)```").matcher(document);
        List<String> lines = new ArrayList<>();
        if (block.find()) {
            for (String line : block.group(1).split("\n")) {
                if (!line.trim().equals("}")) {
                    lines.add(line);
                }
            }
        }
        about = "'The public face'";
        is("lines of the face: the class, NONE, the constructor, 39 methods", lines.size(), 42);
        return lines;
    }

    /** Every line of the face begins one of the class, in the face's order, and no other public member is there. */
    private static void standsInClass(List<String> face, String source) {
        about = "'The public face'";
        int at = 0;
        for (String line : face) {
            String due = line.endsWith(");") ? line.substring(0, line.length() - 1) + " {" : line;
            int found = source.indexOf("\n" + due + "\n", at);
            is("does it stand in the class, in this order? " + due, found >= 0, true);
            at = Math.max(at, found);
        }
        int members = 0;
        for (String line : source.split("\n")) {
            if (line.trim().startsWith("public ")) {
                members++;
            }
        }
        is("public members of the class", members, face.size());
    }

    private static void isPromised(List<String> face, String document) {
        Matcher promise = Pattern.compile("## Promise (\\d+): .*\n\n`([^`]*)`: ").matcher(document);
        int promises = 0;
        while (promise.find()) {
            promises++;
            about = "promise " + promise.group(1);
            is("its number", Integer.parseInt(promise.group(1)), promises);
            is("is it of the face? " + promise.group(2), face.contains("    public " + promise.group(2) + ";"), true);
        }
        about = "the document";
        is("promises", promises, 40);
    }
}
