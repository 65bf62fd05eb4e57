import java.nio.charset.StandardCharsets;

/** What the tests by hand share: putting texts on the tape, comparing answers, counting. */
class Checks {
    /** What the checks that follow are about; it stands ahead of each answer that is not as due. */
    static String about = "";
    static int passed = 0;
    static int failed = 0;

    static void is(String what, long got, long due) {
        if (got == due) {
            passed++;
        } else {
            failed++;
            System.out.println(about + ": " + what + " answered " + got + ", due is " + due);
        }
    }

    static void is(String what, boolean got, boolean due) {
        is(what, got ? 1 : 0, due ? 1 : 0);
    }

    /** Tells how many checks passed, and ends the program with exit code 1 if one did not. */
    static void end(String name) {
        System.out.println(name + ": " + passed + " passed, " + failed + " failed");
        if (failed > 0) {
            System.exit(1);
        }
    }

    /** Puts a text on the tape: twenty bytes a feed, and what is too much back again. */
    static void put(RopeDance x, String text) {
        byte[] bytes = text.getBytes(StandardCharsets.ISO_8859_1);
        for (int at = 0; at < bytes.length; at += 20) {
            int[] five = new int[5];
            for (int i = 0; i < 20; i++) {
                five[i / 4] = five[i / 4] << 8 | (at + i < bytes.length ? bytes[at + i] & 255 : 0);
            }
            x.feed(five[0], five[1], five[2], five[3], five[4]);
        }
        x.back((20 - bytes.length % 20) % 20);
    }

    static RopeDance with(String text) {
        RopeDance x = new RopeDance();
        put(x, text);
        is("read of: " + text, x.read(), 0);
        return x;
    }

    static void fault(String text, int number, int place) {
        RopeDance x = new RopeDance();
        put(x, text);
        String shown = text.length() > 70 ? text.substring(0, 70) + ".." : text;
        is("read of: " + shown, x.read(), number);
        is("place of: " + shown, x.place(), place);
    }

    static void noFault(String text) {
        fault(text, 0, -1);
    }

    static void tangle(RopeDance x, int square, int p, int q) {
        is("square(" + square + ", 0)", x.square(square, 0), p);
        is("square(" + square + ", 1)", x.square(square, 1), q);
    }

    /** All things of a row of steps, and what is behind and ahead of them. */
    static void stepsAre(RopeDance x, int square, int... due) {
        for (int i = 0; i < due.length; i++) {
            is("step(" + square + ", " + i + ")", x.step(square, i), due[i]);
        }
        is("step behind the last", x.step(square, due.length), -1000);
        is("step ahead of the first", x.step(square, -1), -1000);
    }

    static void planIs(RopeDance x, int square, int... due) {
        is("plan(" + square + ", NONE)", x.plan(square, -1), due.length);
        for (int i = 0; i < due.length; i++) {
            is("plan(" + square + ", " + i + ")", x.plan(square, i), due[i]);
        }
        is("plan behind the last", x.plan(square, due.length), -1);
    }

    static String times(int n, String part) {
        StringBuilder all = new StringBuilder();
        for (int i = 0; i < n; i++) {
            all.append(part);
        }
        return all.toString();
    }
}
