/** The first half of part III of 'Terms' and promises 15 to 24: WAYS, PLANS, closings. */
final class BoundariesOfUndoing extends Sentences {
    private BoundariesOfUndoing() {
    }

    static void run() {
        ways();
        plans();
        bringing();
        reaching();
        closings();
        likeOnes();
        rings();
        colours();
        joined();
        askedOfNone();
    }

    /** LEAST, WAYS and the things of STEP of SQUARE 0, which is what it was then, too. */
    private static void leastIs(RopeDance x, int least, int ways, int... steps) {
        int p = x.square(0, 0);
        int q = x.square(0, 1);
        int done = x.count(9);
        is("LEAST of " + p + " / " + q, x.least(0), least);
        is("WAYS of " + p + " / " + q, x.ways(0), ways);
        stepsAre(x, 0, steps);
        tangle(x, 0, p, q);
        is("things done", x.count(9), done);
    }

    private static void ways() {
        terms("==== III. What would be (nothing happens).");
        RopeDance x = with("square a twist 5;figure f turn;slips=50;");
        x.then(0, 60, 0);
        x.year(0, 60, 20);
        x.plan(0, 0);
        x.reach(0);
        x.step(0, 0);
        x.after(0, 0, 0);
        x.rows(0, 0, 4, 0);
        tangle(x, 0, 5, 1);
        for (int what : new int[] {2, 3, 6, 7, 9}) {
            is("count(" + what + ")", x.count(what), 0);
        }
        terms("A WAY of undoing P / Q: with Q 0 a turn is all.");
        leastIs(at(1, 0, "turn"), 1, 1, 100);
        terms("Else so many twists of 1, or backs of 1, that it is R / Q, with R 0 .. Q less 1, or, if R is above 0,"
            + " (R less Q) / Q; if it is 0 / 1 then, that is all; else a turn, and so on with what there is then.");
        terms("LEAST: the fewest twists of 1, backs of 1 and turns by any WAY. WAYS: how many there are.");
        terms("STEP: the WAY of LEAST, of alike ones by R / Q ahead of the other one, each time: its twists on end, backs on end"
            + " (none left out), turns, one behind the other.");
        leastIs(at(0, 1, ""), 0, 1);
        leastIs(at(1, 0, "turn"), 1, 1, 100);
        leastIs(at(1, 1, "1"), 1, 1, -1);
        leastIs(at(-1, 1, "-1"), 1, 1, 1);
        leastIs(at(2, 1, "2"), 2, 1, -2);
        leastIs(at(-99, 1, "-99"), 99, 1, 99);
        leastIs(at(99, 1, "99"), 99, 1, -99);
        leastIs(at(1, 99, "-99 turn"), 100, 99, 100, 99);
        leastIs(at(-1, 99, "99 turn"), 100, 99, 100, -99);
        leastIs(at(98, 99, "98 turn -1 turn"), 101, 99, 100, 1, 100, -98);
        leastIs(at(-98, 99, "-99 turn -1"), 101, 99, 1, 100, 99);
        leastIs(at(99, 98, "-98 turn 1"), 100, 98, -1, 100, 98);
        leastIs(at(-99, 98, "98 turn -1"), 100, 98, 1, 100, -98);
        leastIs(at(1, 2, "-2 turn"), 3, 2, 100, 2);
        leastIs(at(-1, 2, "2 turn"), 3, 2, 100, -2);
        leastIs(at(1, 3, "-3 turn"), 4, 3, 100, 3);
        leastIs(at(-1, 3, "3 turn"), 4, 3, 100, -3);
        leastIs(at(2, 3, "2 turn -1 turn"), 5, 3, 100, 1, 100, -2);
        leastIs(at(-2, 3, "-3 turn -1"), 5, 3, 1, 100, 3);
        leastIs(at(5, 3, "2 turn -1 turn 1"), 6, 3, -1, 100, 1, 100, -2);
        leastIs(at(-5, 3, "-3 turn -2"), 6, 3, 2, 100, 3);
        leastIs(at(80, 9, "8 turn -1 turn 8"), 19, 9, -8, 100, 1, 100, -8);
        leastIs(at(-80, 9, "-9 turn -9"), 19, 9, 9, 100, 9);
        leastIs(at(-9, 80, "8 turn -1 turn 8 turn"), 20, 80, 100, -8, 100, 1, 100, -8);
        leastIs(at(9, 80, "-9 turn -9 turn"), 20, 80, 100, 9, 100, 9);
        leastIs(at(3, 5, "-3 turn -2 turn"), 7, 5, 100, 2, 100, 3);
        leastIs(at(-3, 5, "2 turn -2 turn -1"), 7, 5, 1, 100, 2, 100, -2);
        leastIs(at(-38, 5, "2 turn -2 turn -8"), 14, 5, 8, 100, 2, 100, -2);
        leastIs(at(8, 5, "-3 turn -2 turn 1"), 8, 5, -1, 100, 2, 100, 3);
        leastIs(at(89, 55, "2 turn -2 turn -3 turn -3 turn -2 turn 1"), 18, 55, -1, 100, 2, 100, 3, 100, 3, 100, 2, 100, -2);
        leastIs(at(-89, 55, "-3 turn -3 turn -3 turn -3 turn -2"), 18, 55, 2, 100, 3, 100, 3, 100, 3, 100, 3);
        leastIs(at(97, 60, "-5 turn -3 turn -3 turn -2 turn 1"), 18, 60, -1, 100, 2, 100, 3, 100, 3, 100, 5);
        leastIs(at(99, 50, "49 turn -1 turn 1"), 53, 50, -1, 100, 1, 100, -49);
        leastIs(at(50, 99, "-50 turn -2 turn"), 54, 99, 100, 2, 100, 50);
        leastIs(at(49, 99, "49 turn -2 turn"), 53, 99, 100, 2, 100, -49);
        leastIs(at(99, 2, "-2 turn 49"), 52, 2, -49, 100, 2);
    }

    private static void plans() {
        terms("PLAN of a SQUARE: the fewest FIGURES by which it is 0 / 1, each of which can be made then;");
        RopeDance x = with("square a;figure f twist 1;");
        planIs(x, 0);
        is("of 0 / 1, i 5", x.plan(0, 5), -1);
        walk(x, 0, "-99");
        is("of -99 / 1", x.plan(0, -1), 99);
        for (int i = 0; i < 99; i++) {
            is("plan(0, " + i + ")", x.plan(0, i), 0);
        }
        is("plan(0, 99)", x.plan(0, 99), -1);
        is("it was not called", x.count(7), 0);
        // of 60, 40 twists come to 100; 50 backs ahead of them do not
        x = with("square a twist 9 twist 9 twist 9 twist 9 twist 9 twist 9 twist 6;"
            + "figure f twist 9 twist 9 twist 9 twist 9 twist 4;figure g back 9 back 9 back 9 back 9 back 9 back 5;");
        planIs(x, 0, 1, 0, 1);
        // of 99 / 1 the first FIGURE goes by way of 108 / 1, of all below it does not
        x = with("square a;figure f twist 9 back 9 back 9 back 9;figure g back 9;");
        walk(x, 0, "99");
        planIs(x, 0, 1, 0, 0, 0, 0, 0);
        terms("of as few the lowest FIGURE first, then the next one.");
        x = with("square a twist 3;figure f back 2;figure g back 1;figure h back 2;figure i back 1;figure j turn turn;");
        planIs(x, 0, 0, 1);
        x = with("square a twist 4;figure f back 1;figure g back 3;figure h back 2;figure i back 2;");
        planIs(x, 0, 0, 1);
        x = with("square a twist 4;figure f back 3;figure g back 1;figure h back 2;figure i back 4 turn;figure j turn;");
        planIs(x, 0, 0, 1);
        x = with("square a twist 4;figure f back 3;figure g back 1;figure h back 4;");
        planIs(x, 0, 2);
        x = with("square a twist 4;figure f;figure g turn turn;figure h back 4;figure i back 4;");
        planIs(x, 0, 2);
    }

    private static void bringing() {
        terms("BRING it to another SQUARE's TANGLE: likewise.");
        RopeDance x = with("square a;square b twist 9 twist 9;square c;square d turn;figure f twist 5;figure g twist 1;figure h twist 4;");
        int[] due = {0, 0, 2, 2};
        is("from 0 to 18", x.bring(0, 1, -1), 4);
        for (int i = 0; i < 4; i++) {
            is("from 0 to 18, " + i, x.bring(0, 1, i), due[i]);
        }
        is("from 0 to 18, behind the last", x.bring(0, 1, 4), -1);
        is("from 0 to 0", x.bring(0, 2, -1), 0);
        is("from 0 to 0, behind the last", x.bring(0, 2, 0), -1);
        walk(x, 2, "99");
        // 19 times 5 and 4 are 99; what goes beyond on the way does not count
        is("from 0 to 99", x.bring(0, 2, -1), 20);
        is("from 0 to 99, the first", x.bring(0, 2, 0), 0);
        is("from 0 to 99, the last", x.bring(0, 2, 19), 2);
        is("from 0 to 99, behind the last", x.bring(0, 2, 20), -1);
    }

    private static void reaching() {
        terms("REACH: how many TANGLES it can come to by FIGURES (as now, too).");
        is("no FIGURES", with("square a twist 3;").reach(0), 1);
        is("a FIGURE of no MOVES", with("square a twist 3;figure f;").reach(0), 1);
        is("a FIGURE that can not be made", at(95, 1, "95").reach(0) > 1, true);
        RopeDance x = with("square a;figure f twist 9 back 9;figure g twist 5 back 5;");
        walk(x, 0, "95");
        is("FIGURES that can not be made", x.reach(0), 1);
        x = with("square a;square b turn;square c twist 9;figure f twist 9;");
        is("0, 9 .. 99", x.reach(0), 12);
        is("1 / 0", x.reach(1), 1);
        is("9, 18 .. 99", x.reach(2), 11);
        x = with("square a;square b turn;figure f twist 1;figure g back 1;");
        is("-99 .. 99", x.reach(0), 199);
        is("1 / 0", x.reach(1), 1);
        x = with("square a;square b turn;figure f turn;figure g twist 1;figure h back 1;");
        is("all that there are", x.reach(0), 12016);
        is("all that there are, from 1 / 0", x.reach(1), 12016);
        walk(x, 0, "99 turn");
        is("all that there are, from -1 / 99", x.reach(0), 12016);
    }

    private static void closedIs(RopeDance x, int p, int q) {
        is("p", x.closed(0, 0), p);
        is("q", x.closed(0, 1), q);
    }

    private static void closings() {
        terms("CLOSED: p: P without its sign; q: Q, with P's sign changed below 0, by p, its rest 0 .. p less 1 (p 0: 0).");
        closedIs(at(0, 1, ""), 0, 0);
        closedIs(at(1, 0, "turn"), 1, 0);
        closedIs(at(1, 1, "1"), 1, 0);
        closedIs(at(-1, 1, "-1"), 1, 0);
        closedIs(at(1, 99, "-99 turn"), 1, 0);
        closedIs(at(-1, 99, "99 turn"), 1, 0);
        closedIs(at(5, 3, "3 turn 2"), 5, 3);
        closedIs(at(-5, 3, "-3 turn -2"), 5, 2);
        closedIs(at(98, 99, "99 turn 1"), 98, 1);
        closedIs(at(-98, 99, "-99 turn -1"), 98, 97);
        closedIs(at(99, 98, "-99 turn -1 turn"), 99, 98);
        closedIs(at(-99, 98, "99 turn 1 turn"), 99, 1);
        closedIs(at(99, 1, "99"), 99, 1);
        closedIs(at(-99, 1, "-99"), 99, 98);
        closedIs(at(-2, 1, "-2"), 2, 1);
        closedIs(at(2, 5, "2 turn -2 turn"), 2, 1);
    }

    /** ALIKE of SQUARES that go these ways from 0 / 1 on, both ways about. */
    private static void alikeIs(String one, String other, int due) {
        RopeDance x = with("square a;square b;");
        walk(x, 0, one);
        walk(x, 1, other);
        String what = x.square(0, 0) + " / " + x.square(0, 1) + " and " + x.square(1, 0) + " / " + x.square(1, 1);
        is(what, x.alike(0, 1), due);
        is(what + ", the other way about", x.alike(1, 0), due);
        is("with itself", x.alike(0, 0), 1);
    }

    private static void likeOnes() {
        terms("ALIKE of two SQUARES: p is alike, and q is alike, or p divides what both q, multiplied, are, less 1.");
        alikeIs("", "", 1);
        alikeIs("turn", "1", 1);
        alikeIs("turn", "-99 turn", 1);
        alikeIs("", "turn", 0);
        alikeIs("", "1", 0);
        alikeIs("2", "-2", 1);
        alikeIs("3", "-3", 0);
        // 5 / 2 and 5 / 3: 6 less 1; 5 / 1 and 5 / 4: 4 less 1; 5 / 2 and -5 / 2: q 2 and 3; 5 / 3 and -5 / 2: q 3 and 3
        alikeIs("-2 turn 2", "3 turn 2", 1);
        alikeIs("5", "-5", 0);
        alikeIs("-2 turn 2", "2 turn -2", 1);
        alikeIs("3 turn 2", "2 turn -2", 1);
        // 7 / 2 and 7 / 4: 8 less 1; 7 / 2 and 7 / 3: 6 less 1; 7 / 6 with itself alone
        alikeIs("-2 turn 3", "4 turn 2", 1);
        alikeIs("-2 turn 3", "-3 turn 2", 0);
        alikeIs("-7", "7", 0);
        alikeIs("99", "-99", 0);
        // p unlike, though q is alike
        alikeIs("5", "7", 0);
        // 7 / 3 and 5 / 3
        alikeIs("-3 turn 2", "3 turn 2", 0);
    }

    private static void rings() {
        terms("RINGS: 2 if P is even, else 1.");
        is("0 / 1", at(0, 1, "").closed(0, 2), 2);
        is("1 / 0", at(1, 0, "turn").closed(0, 2), 1);
        is("1 / 1", at(1, 1, "1").closed(0, 2), 1);
        is("-1 / 2", at(-1, 2, "2 turn").closed(0, 2), 1);
        is("-2 / 1", at(-2, 1, "-2").closed(0, 2), 2);
        is("-98 / 99", at(-98, 99, "-99 turn -1").closed(0, 2), 2);
        is("-99 / 98", at(-99, 98, "99 turn 1 turn").closed(0, 2), 1);
    }

    private static void colours() {
        terms("COLOURS of n (2 .. 97): n times the greatest number that divides n and p (p 0: n).");
        for (int n : new int[] {2, 3, 50, 96, 97}) {
            is("0 / 1 of " + n, at(0, 1, "").colours(0, n), n * n);
            is("1 / 0 of " + n, at(1, 0, "turn").colours(0, n), n);
            is("-1 / 1 of " + n, at(-1, 1, "-1").colours(0, n), n);
        }
        RopeDance x = at(97, 1, "97");
        is("97 / 1 of 97", x.colours(0, 97), 97 * 97);
        is("97 / 1 of 96", x.colours(0, 96), 96);
        x = at(-96, 1, "-96");
        is("-96 / 1 of 2", x.colours(0, 2), 4);
        is("-96 / 1 of 96", x.colours(0, 96), 96 * 96);
        is("-96 / 1 of 72", x.colours(0, 72), 72 * 24);
        is("-96 / 1 of 97", x.colours(0, 97), 97);
        promise(23, "COLOURS; NONE: no such ones.");
        for (int n : new int[] {1, 0, -1, -2, 98, 99, 1000, LEAST, GREATEST}) {
            is("colours(0, " + n + ")", x.colours(0, n), -1);
            is("colours of 0 / 1, " + n, at(0, 1, "").colours(0, n), -1);
        }
        for (int none : new int[] {-1, 1, 2, LEAST, GREATEST}) {
            is("colours(" + none + ", 3)", x.colours(none, 3), -1);
        }
    }

    private static void joinedIs(String one, String other, int due) {
        RopeDance x = with("square a;square b;");
        walk(x, 0, one);
        walk(x, 1, other);
        String what = x.square(0, 0) + " / " + x.square(0, 1) + " and " + x.square(1, 0) + " / " + x.square(1, 1);
        is(what, x.joined(0, 1), due);
        is(what + ", the other way about", x.joined(1, 0), due);
    }

    private static void joined() {
        terms("JOINED of two SQUARES: P of the first times Q of the other and P of the other times Q of the first, added, without sign.");
        joinedIs("", "", 0);
        joinedIs("turn", "turn", 0);
        joinedIs("", "turn", 1);
        joinedIs("turn", "-99 turn", 99);
        joinedIs("3", "-3", 0);
        joinedIs("-3", "-4", 7);
        joinedIs("-3", "1", 2);
        joinedIs("-99", "-99", 198);
        joinedIs("99 turn 1", "-99 turn -1 turn", 98 * 98 + 99 * 99);
        joinedIs("-99 turn -1", "99 turn 1 turn", 98 * 98 + 99 * 99);
        joinedIs("-99 turn -1", "-99 turn -1 turn", 99 * 99 - 98 * 98);
        is("with itself", at(-99, 98, "99 turn 1 turn").joined(0, 0), 2 * 99 * 98);
    }

    /** What is told of SQUARES that there are not, and of what there is not so much of. */
    private static void askedOfNone() {
        RopeDance x = with("square a;square b turn;square c twist 3;square d;figure f twist 1;figure g turn;");
        promise(15, "LEAST; NONE: no such SQUARE.");
        is("least(0) of 0 / 1", x.least(0), 0);
        is("least(3)", x.least(3), 0);
        for (int none : NONE_OF_FOUR) {
            is("least(" + none + ")", x.least(none), -1);
        }
        promise(16, "WAYS (0 / 1: 1); NONE: no such SQUARE.");
        is("ways(0) of 0 / 1", x.ways(0), 1);
        is("ways(3) of 0 / 1", x.ways(3), 1);
        for (int none : NONE_OF_FOUR) {
            is("ways(" + none + ")", x.ways(none), -1);
        }
        promise(17, "The i-th thing of STEP: k twists (backs: -k), a turn: 100; -1000: not so many, no such SQUARE.");
        for (int i : new int[] {LEAST, -1000, -2, -1, 0, 1, 100, GREATEST}) {
            is("step of 0 / 1, " + i, x.step(0, i), -1000);
            is("step of 1 / 0, " + i, x.step(1, i), i == 0 ? 100 : -1000);
            is("step of 3 / 1, " + i, x.step(2, i), i == 0 ? -3 : -1000);
            for (int none : NONE_OF_FOUR) {
                is("step(" + none + ", " + i + ")", x.step(none, i), -1000);
            }
        }
        is("a hundred twists are no turn: 99 / 1", at(99, 1, "99").step(0, 0), -99);
        promise(20, "REACH; NONE: no such SQUARE.");
        is("reach(3)", x.reach(3) > 1, true);
        for (int none : NONE_OF_FOUR) {
            is("reach(" + none + ")", x.reach(none), -1);
        }
        promise(21, "ALIKE: 1, 0; NONE: no such SQUARES.");
        is("alike(0, 3)", x.alike(0, 3), 1);
        is("alike(3, 2)", x.alike(3, 2), 0);
        promise(24, "JOINED; NONE: no such SQUARES.");
        is("joined(2, 2)", x.joined(2, 2), 6);
        for (int none : NONE_OF_FOUR) {
            about = "promises 21 and 24, \"NONE: no such SQUARES.\"";
            is("alike(" + none + ", 0)", x.alike(none, 0), -1);
            is("alike(3, " + none + ")", x.alike(3, none), -1);
            is("alike(" + none + ", " + none + ")", x.alike(none, none), -1);
            is("joined(" + none + ", 0)", x.joined(none, 0), -1);
            is("joined(3, " + none + ")", x.joined(3, none), -1);
            is("joined(" + none + ", " + none + ")", x.joined(none, none), -1);
        }
        promise(22, "CLOSED: what 0 p, 1 q, 2 RINGS; NONE: no such ones.");
        int[] due = {3, 1, 1};
        for (int what = 0; what < 3; what++) {
            is("closed(2, " + what + ")", x.closed(2, what), due[what]);
            for (int none : NONE_OF_FOUR) {
                is("closed(" + none + ", " + what + ")", x.closed(none, what), -1);
            }
        }
        for (int what : NONE_OF_THREE) {
            is("closed(2, " + what + ")", x.closed(2, what), -1);
        }
        plansOfNone();
    }

    private static void plansOfNone() {
        promise(18, "PLAN: how many (i NONE), else the i-th FIGURE; -2: it can not be (i NONE or not); NONE: no such ones, not so many.");
        RopeDance x = with("square a;square b turn;square c back 3;square d twist 3;figure f;figure g twist 1;");
        is("it can be, 0 FIGURES", x.plan(0, -1), 0);
        is("not so many of 0", x.plan(0, 0), -1);
        is("it can be, 3 FIGURES", x.plan(2, -1), 3);
        is("the last", x.plan(2, 2), 1);
        for (int i : new int[] {3, 4, 99, GREATEST}) {
            is("not so many: " + i, x.plan(2, i), -1);
        }
        for (int i : new int[] {-2, -3, -1000, LEAST}) {
            is("i below NONE: " + i, x.plan(2, i), -1);
        }
        for (int i : new int[] {-1, 0, 1, 3, 99, GREATEST}) {
            is("it can not be, of 1 / 0: " + i, x.plan(1, i), -2);
            is("it can not be, of 3 / 1: " + i, x.plan(3, i), -2);
            is("no FIGURES: " + i, with("square a twist 1;").plan(0, i), -2);
            is("no FIGURES, of 0 / 1: " + i, with("square a;").plan(0, i), i == -1 ? 0 : -1);
            for (int none : NONE_OF_FOUR) {
                is("plan(" + none + ", " + i + ")", x.plan(none, i), -1);
            }
        }
        promise(19, "BRING to another one: likewise; NONE: one and the same, too.");
        is("it can be", x.bring(2, 3, -1), 6);
        is("the last", x.bring(2, 3, 5), 1);
        for (int i : new int[] {6, 7, 99, GREATEST, -2, -3, LEAST}) {
            is("not so many: " + i, x.bring(2, 3, i), -1);
        }
        for (int i : new int[] {-1, 0, 1, 6, 99, GREATEST}) {
            is("it can not be: " + i, x.bring(3, 2, i), -2);
            is("it can not be, to 1 / 0: " + i, x.bring(0, 1, i), -2);
            for (int square = 0; square < 4; square++) {
                is("one and the same: " + i, x.bring(square, square, i), -1);
            }
            for (int none : NONE_OF_FOUR) {
                is("bring(" + none + ", 0, " + i + ")", x.bring(none, 0, i), -1);
                is("bring(0, " + none + ", " + i + ")", x.bring(0, none, i), -1);
                is("bring(" + none + ", " + none + ", " + i + ")", x.bring(none, none, i), -1);
            }
        }
    }
}
