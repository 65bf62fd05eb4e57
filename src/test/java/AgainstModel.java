import java.lang.reflect.Method;
import java.nio.charset.StandardCharsets;
import java.util.Arrays;
import java.util.Random;

/** Runs of chance calls on RopeDance and on the Model, which must answer alike. */
public final class AgainstModel {
    // a letter an argument: s SQUARE, f FIGURE, w what, n minutes, i a place in a row, and so on (see argument())
    private static final String[] CALLS = {
        "back x", "read", "place", "square sw", "figure fw", "tires sf", "after sfw", "call sf", "call sf", "move swk",
        "move swk", "move swk", "let s", "minutes n", "minutes n", "undo", "undo", "least s", "ways s", "step si",
        "step si", "plan si", "plan si", "bring ssi", "bring ssi", "reach s", "alike ss", "closed sw", "colours sm",
        "joined ss", "order f", "round fm", "power fpmw", "stays fw", "mind ff", "reverse f", "hands fe", "then snw",
        "year sny", "tell ieb", "tell ieb", "tell ieb", "forget", "rows kslw", "rows kslw", "listen ksl", "listen ksl",
        "hold t", "restore t", "count c", "count c"};

    private final Random random;
    private final RopeDance real = new RopeDance();
    private final Model model = new Model();
    private final StringBuilder log = new StringBuilder();
    private int wrong = 0;

    private AgainstModel(long seed) {
        random = new Random(seed);
    }

    public static void main(String[] args) throws Exception {
        int runs = args.length > 0 ? Integer.parseInt(args[0]) : 400;
        int from = args.length > 1 ? Integer.parseInt(args[1]) : 0;
        int passed = 0;
        int failed = 0;
        for (int run = from; run < from + runs; run++) {
            AgainstModel one = new AgainstModel(run);
            one.run(run % 3 == 0);
            if (one.wrong == 0) {
                passed++;
            } else {
                failed++;
                System.out.println("run " + run + ":\n" + one.log);
            }
            if (failed > 3) {
                break;
            }
        }
        System.out.println("AgainstModel: " + passed + " passed, " + failed + " failed");
        if (failed > 0) {
            System.exit(1);
        }
    }

    private void run(boolean manyTexts) throws Exception {
        int calls = 0;
        while (calls < 512 && wrong == 0) {
            if (calls == 0 || random.nextInt(manyTexts ? 6 : 150) == 0) {
                calls += feedText(TextMaker.text(random)) + 1;
                check("read");
                calls++;
                check("place");
            } else {
                String call = CALLS[random.nextInt(CALLS.length)];
                if (call.startsWith("read") && random.nextInt(5) > 0) {
                    continue;
                }
                calls++;
                check(call);
            }
        }
    }

    private int feedText(String text) throws Exception {
        byte[] bytes = text.getBytes(StandardCharsets.ISO_8859_1);
        int calls = 0;
        for (int at = 0; at < bytes.length; at += 20) {
            Object[] five = new Object[5];
            for (int i = 0; i < 5; i++) {
                int four = 0;
                for (int j = 0; j < 4; j++) {
                    int where = at + 4 * i + j;
                    four = four << 8 | (where < bytes.length ? bytes[where] & 255 : 0);
                }
                five[i] = four;
            }
            compare("feed", five);
            calls++;
        }
        int over = (20 - bytes.length % 20) % 20;
        if (over > 0) {
            compare("back", new Object[] {over});
            calls++;
        }
        log.append("text: ").append(text).append('\n');
        return calls;
    }

    private void check(String call) throws Exception {
        String[] parts = call.split(" ");
        String kinds = parts.length > 1 ? parts[1] : "";
        Object[] arguments = new Object[kinds.length()];
        for (int i = 0; i < arguments.length; i++) {
            arguments[i] = argument(kinds.charAt(i));
        }
        compare(parts[0], arguments);
    }

    private Object argument(char kind) {
        if (kind == 'b') {
            return random.nextBoolean();
        }
        if (random.nextInt(60) == 0) {
            int[] odd = {Integer.MIN_VALUE, Integer.MAX_VALUE, -2, -1, 0, 5, 100, 1000, -1000, 65536};
            return odd[random.nextInt(odd.length)];
        }
        switch (kind) {
            case 's': return about(0, Math.max(0, model.script.squares.size() - 1));
            case 'f': return about(0, Math.max(0, model.script.figures.size() - 1));
            case 'w': return about(0, random.nextInt(3) == 0 ? 8 : 2);
            case 'c': return about(0, 13);
            case 'k': return about(0, 9);
            case 'n': return random.nextInt(4) == 0 ? about(0, 60) : random.nextInt(4);
            case 'i': return about(-1, random.nextInt(2) == 0 ? 1 : 8);
            case 'm': return about(2, 97);
            case 'p': return random.nextInt(2) == 0 ? random.nextInt(20) : random.nextInt(1000000002);
            case 'e': return about(0, 2);
            case 'y': return about(1, 20);
            case 'l': return about(1, 4);
            case 't': return about(0, 2);
            default: return random.nextInt(40);
        }
    }

    private int about(int least, int most) {
        if (random.nextInt(25) == 0) {
            return random.nextBoolean() ? least - 1 : most + 1;
        }
        return least + random.nextInt(most - least + 1);
    }

    private void compare(String name, Object[] arguments) throws Exception {
        Object due = method(Model.class, name, arguments.length).invoke(model, arguments);
        Object got = method(RopeDance.class, name, arguments.length).invoke(real, arguments);
        log.append(name).append(Arrays.toString(arguments)).append(" = ").append(due).append('\n');
        if (!due.equals(got)) {
            wrong++;
            log.append("  but answered ").append(got).append('\n');
        }
    }

    private static Method method(Class<?> of, String name, int arguments) {
        for (Method method : of.getDeclaredMethods()) {
            boolean isStatic = java.lang.reflect.Modifier.isStatic(method.getModifiers());
            if (method.getName().equals(name) && method.getParameterCount() == arguments && !isStatic) {
                return method;
            }
        }
        throw new IllegalStateException(name);
    }
}
