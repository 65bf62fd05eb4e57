import java.lang.reflect.Constructor;
import java.lang.reflect.Field;
import java.lang.reflect.Method;
import java.lang.reflect.Modifier;
import java.nio.charset.StandardCharsets;
import java.nio.file.Files;
import java.nio.file.Paths;
import java.util.ArrayList;
import java.util.Arrays;
import java.util.List;
import java.util.Set;
import java.util.TreeSet;
import java.util.regex.Matcher;
import java.util.regex.Pattern;

/** Looks whether the class keeps to LANGUAGE.md, as far as a look at its text and its members tells. */
public final class Language {
    private static final String[] FACE = {
        "feed(int,int,int,int,int):int", "back(int):int", "read():int", "place():int", "square(int,int):int",
        "figure(int,int):int", "tires(int,int):int", "after(int,int,int):int", "call(int,int):int",
        "move(int,int,int):boolean", "let(int):boolean", "minutes(int):int", "undo():boolean", "least(int):int",
        "ways(int):int", "step(int,int):int", "plan(int,int):int", "bring(int,int,int):int", "reach(int):int",
        "alike(int,int):int", "closed(int,int):int", "colours(int,int):int", "joined(int,int):int", "order(int):int",
        "round(int,int):int", "power(int,int,int,int):int", "stays(int,int):int", "mind(int,int):int",
        "reverse(int):int", "hands(int,int):int", "then(int,int,int):int", "year(int,int,int):int",
        "tell(int,int,boolean):int", "forget():int", "rows(int,int,int,int):int", "listen(int,int,int):int",
        "hold(int):boolean", "restore(int):boolean", "count(int):int"};
    // by rule: what must not stand in the text
    private static final String[][] NEVER = {
        {"2", "->"}, {"2", "::"}, {"2", "\\bnew\\s+\\w+\\s*\\([^()]*\\)\\s*\\{"}, {"4", "\\bimport\\b"},
        {"4", "\\bpackage\\b"}, {"4", "\\bSystem\\.(?!arraycopy)"}, {"4", "\\w+Exact\\b"}, {"4", "\\bObject\\b"},
        {"5", "\\bstatic\\s*\\{"}, {"6", "\\bthrow\\b"}, {"6", "\\bthrows\\b"}, {"6", "\\btry\\b"},
        {"6", "\\bcatch\\b"}, {"6", "\\bsynchronized\\b"}, {"6", "\\bassert\\b"}, {"6", "\\binstanceof\\b"},
        {"6", "\\b(equals|hashCode|toString)\\b"}, {"10", "\"\\s*\\+|\\+\\s*\""}, {"13", "\\b(Thread|Random|Runtime)\\b"}};

    private static int passed = 0;
    private static int failed = 0;

    private Language() {
    }

    public static void main(String[] args) throws Exception {
        String text = new String(Files.readAllBytes(Paths.get("src/main/java/RopeDance.java")), StandardCharsets.UTF_8);
        text = text.replaceAll("(?s)/\\*.*?\\*/", " ").replaceAll("//[^\n]*", " ");
        for (String[] rule : NEVER) {
            Matcher matcher = Pattern.compile(rule[1]).matcher(text);
            is("rule " + rule[0] + ": no " + rule[1], !matcher.find());
        }
        is("rule 4: signs 1 to 127", text.chars().allMatch(c -> c < 128));
        lookAtFace();
        List<Class<?>> all = new ArrayList<>();
        all.add(RopeDance.class);
        all.addAll(Arrays.asList(RopeDance.class.getDeclaredClasses()));
        is("rule 11: twelve classes at most", all.size() <= 12);
        for (Class<?> one : all) {
            lookAtClass(one);
        }
        lookAtMethods(text);
        System.out.println("Language: " + passed + " passed, " + failed + " failed");
        if (failed > 0) {
            System.exit(1);
        }
    }

    private static void is(String what, boolean so) {
        if (so) {
            passed++;
        } else {
            failed++;
            System.out.println("not so: " + what);
        }
    }

    private static void lookAtFace() {
        Set<String> due = new TreeSet<>(Arrays.asList(FACE));
        Set<String> found = new TreeSet<>();
        for (Method method : RopeDance.class.getDeclaredMethods()) {
            if (Modifier.isPrivate(method.getModifiers()) || method.isSynthetic()) {
                continue;
            }
            StringBuilder one = new StringBuilder(method.getName()).append('(');
            for (Class<?> type : method.getParameterTypes()) {
                one.append(one.charAt(one.length() - 1) == '(' ? "" : ",").append(type.getName());
            }
            found.add(one.append("):").append(method.getReturnType().getName()).toString());
            is("rule 1: public and of an object: " + one, method.getModifiers() == Modifier.PUBLIC);
        }
        is("rule 1: the methods of the face, and no other: " + found, found.equals(due));
        Constructor<?>[] made = RopeDance.class.getDeclaredConstructors();
        is("rule 1: one constructor", made.length == 1 && made[0].getModifiers() == Modifier.PUBLIC
            && made[0].getParameterCount() == 0);
        for (Field field : RopeDance.class.getDeclaredFields()) {
            boolean isNone = field.getName().equals("NONE")
                && field.getModifiers() == (Modifier.PUBLIC | Modifier.STATIC | Modifier.FINAL);
            is("rule 1: field " + field.getName(), isNone || Modifier.isPrivate(field.getModifiers()));
        }
    }

    private static void lookAtClass(Class<?> one) {
        int fields = 0;
        for (Field field : one.getDeclaredFields()) {
            int how = field.getModifiers();
            if (Modifier.isStatic(how)) {
                Class<?> type = field.getType();
                is("rule 5: " + one.getName() + "." + field.getName() + " is final", Modifier.isFinal(how));
                is("rule 5: " + field.getName() + " is of a type of constants",
                    type.isPrimitive() || type == String.class || type == int[].class);
            } else {
                fields++;
            }
        }
        is("rule 11: fields of " + one.getName() + ": " + fields, fields <= 20);
        if (one != RopeDance.class) {
            is("rule 2: " + one.getName() + " is static and private",
                Modifier.isStatic(one.getModifiers()) && Modifier.isPrivate(one.getModifiers()));
        }
        for (Method method : one.getDeclaredMethods()) {
            is("rule 11: parameters of " + method, method.getParameterCount() <= 7);
            if (one == RopeDance.class && !Modifier.isPublic(method.getModifiers()) || one != RopeDance.class) {
                is("rule 1: " + method + " bears no name of the face",
                    Arrays.stream(FACE).noneMatch(f -> f.startsWith(method.getName() + "(")));
            }
        }
    }

    /** A method's lines, from its opening bracket to the one that closes it. */
    private static void lookAtMethods(String text) {
        Matcher matcher = Pattern.compile("(\\w+)\\([^()]*\\) \\{\n").matcher(text);
        while (matcher.find()) {
            if (Set.of("if", "for", "while", "switch").contains(matcher.group(1))) {
                continue;
            }
            int depth = 1;
            int lines = 0;
            for (int at = matcher.end(); at < text.length() && depth > 0; at++) {
                char c = text.charAt(at);
                depth += c == '{' ? 1 : c == '}' ? -1 : 0;
                lines += c == '\n' ? 1 : 0;
            }
            is("rule 11: lines of " + matcher.group(1) + ": " + lines, lines <= 60);
        }
    }
}
