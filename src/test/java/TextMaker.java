import java.util.ArrayList;
import java.util.List;
import java.util.Random;

/** Makes texts by chance: most right ones, some with one thing wrong. */
final class TextMaker {
    private static final String[] VARS = {"over", "under", "cross", "ends", "tired", "minute", "which", "moves", "called"};
    private static final String[] WORDS = {"square", "figure", "tires", "rests", "pays", "slips", "seed", "twist", "back",
        "turn", "if", "then", "else", "over", "tired", "moves", ";", "=", "+", "-", "*", "/", "<", "(", ")", "0", "7",
        "10", "9999", "12345", "a", "abcdefgh", "abcdefghi", "A", "$", "\u00e9", "\u0000", "."};

    private final Random random;
    private final List<String> tokens = new ArrayList<>();
    private int names = 0;

    private TextMaker(Random random) {
        this.random = random;
    }

    static String text(Random random) {
        TextMaker maker = new TextMaker(random);
        maker.tells();
        if (random.nextInt(3) == 0) {
            maker.spoil();
        }
        return maker.joined();
    }

    private boolean oneIn(int n) {
        return random.nextInt(n) == 0;
    }

    private void add(String... all) {
        tokens.addAll(List.of(all));
    }

    private void tells() {
        List<Runnable> parts = new ArrayList<>();
        int squares = oneIn(30) ? 5 : oneIn(15) ? 0 : 1 + random.nextInt(4);
        int figures = oneIn(30) ? 6 : oneIn(15) ? 0 : 1 + random.nextInt(5);
        boolean tame = random.nextInt(3) > 0;
        for (int i = 0; i < squares; i++) {
            parts.add(() -> named("square", tame));
        }
        for (int i = 0; i < figures; i++) {
            parts.add(() -> named("figure", tame));
        }
        for (String law : new String[] {"tires", "rests", "pays", "slips"}) {
            int many = oneIn(2) ? 1 : oneIn(6) ? 2 : 0;
            for (int i = 0; i < many; i++) {
                parts.add(() -> law(law));
            }
        }
        for (int i = oneIn(3) ? 0 : oneIn(5) ? 2 : 1; i > 0; i--) {
            parts.add(() -> add("seed", "" + random.nextInt(10000), ";"));
        }
        if (oneIn(2)) {
            java.util.Collections.shuffle(parts, random);
        }
        for (Runnable part : parts) {
            part.run();
        }
    }

    private void named(String word, boolean tame) {
        add(word, name());
        int moves = oneIn(40) ? 9 : tame ? random.nextInt(5) : random.nextInt(9);
        for (int i = 0; i < moves; i++) {
            switch (random.nextInt(3)) {
                case 0: add("turn"); break;
                case 1: add("twist", twists(tame)); break;
                default: add("back", twists(tame)); break;
            }
        }
        add(";");
    }

    private String twists(boolean tame) {
        if (oneIn(150)) {
            return oneIn(2) ? "0" : "" + (10 + random.nextInt(200));
        }
        return "" + (1 + random.nextInt(tame ? 3 : 9));
    }

    private String name() {
        if (oneIn(60)) {
            return "n" + (char) ('a' + random.nextInt(4));
        }
        return "n" + (char) ('a' + names++);
    }

    private void law(String word) {
        add(word, "=");
        int ifs = oneIn(40) ? 5 : oneIn(2) ? 0 : random.nextInt(4);
        for (int i = 0; i < ifs; i++) {
            add("if");
            sum(0);
            add("<");
            sum(0);
            add("then");
            sum(0);
            add("else");
        }
        sum(0);
        add(";");
    }

    private void sum(int open) {
        part(open);
        while (oneIn(3)) {
            add(oneIn(2) ? "+" : "-");
            part(open);
        }
    }

    private void part(int open) {
        unit(open);
        while (oneIn(3)) {
            add(oneIn(2) ? "*" : "/");
            unit(open);
        }
    }

    private void unit(int open) {
        if (random.nextInt(10) < (open < 6 || oneIn(10) ? 2 : 0)) {
            add("(");
            sum(open + 1);
            add(")");
        } else if (oneIn(2)) {
            add("" + (oneIn(2) ? random.nextInt(10) : oneIn(8) ? random.nextInt(10000) : random.nextInt(120)));
        } else {
            add(VARS[random.nextInt(VARS.length)]);
        }
    }

    private void spoil() {
        if (tokens.isEmpty()) {
            return;
        }
        int where = random.nextInt(tokens.size());
        switch (random.nextInt(6)) {
            case 0: tokens.remove(where); break;
            case 1: tokens.add(where, WORDS[random.nextInt(WORDS.length)]); break;
            case 2: tokens.set(where, WORDS[random.nextInt(WORDS.length)]); break;
            case 3: while (tokens.size() > where) {
                tokens.remove(tokens.size() - 1);
            } break;
            case 4: deepen(); break;
            default: lengthen(); break;
        }
    }

    private void deepen() {
        add("pays", "=");
        int open = 5 + random.nextInt(3);
        for (int i = 0; i < open; i++) {
            add("(");
        }
        add("over");
        for (int i = 0; i < open; i++) {
            add(")");
        }
        add(";");
    }

    private void lengthen() {
        int goal = 396 + random.nextInt(8);
        add("pays", "=", "1");
        while (tokens.size() < goal) {
            add("+", "" + random.nextInt(3));
        }
        add(";");
    }

    private String joined() {
        StringBuilder text = new StringBuilder();
        String blanks = " \n\t\r";
        for (String token : tokens) {
            boolean needsBlank = text.length() > 0 && Character.isLetterOrDigit(token.charAt(0))
                && Character.isLetterOrDigit(text.charAt(text.length() - 1));
            if (needsBlank || oneIn(tokens.size() > 300 ? 20 : 3)) {
                text.append(oneIn(5) ? blanks.charAt(random.nextInt(4)) : ' ');
            }
            text.append(token);
        }
        if (oneIn(6)) {
            text.append("  ");
        }
        return text.length() > 1980 ? text.substring(0, 1980) : text.toString();
    }
}
