/** The second half of part III of 'Terms' and promises 7, 25 to 33: TABLES, powers, chances. */
final class BoundariesOfFigures extends Sentences {
    private BoundariesOfFigures() {
    }

    static void run() {
        tables();
        orders();
        rounds();
        powers();
        stays();
        mind();
        reverse();
        hands();
        then();
        year();
    }

    private static RopeDance figure(String moves) {
        return with("figure f " + moves + ";");
    }

    private static void tableIs(String moves, int howMany, int... due) {
        RopeDance x = figure(moves);
        for (int what = 0; what < 4; what++) {
            is("figure(0, " + what + ") of " + moves, x.figure(0, what), due[what]);
        }
        is("figure(0, 4) of " + moves, x.figure(0, 4), howMany);
    }

    private static void tables() {
        terms("TABLE of a FIGURE: a, b, c, d, so that it makes (a * P + b * Q) / (c * P + d * Q) of P / Q, whatever may go beyond 99:"
            + " twist k: 1, k, 0, 1; back k: 1, -k, 0, 1; turn: 0, -1, 1, 0;"
            + " of MOVES one behind the other (none: 1, 0, 0, 1); the first that is not 0 above 0, all signs changed else.");
        tableIs("", 0, 1, 0, 0, 1);
        tableIs("twist 1", 1, 1, 1, 0, 1);
        tableIs("twist 9", 1, 1, 9, 0, 1);
        tableIs("back 1", 1, 1, -1, 0, 1);
        tableIs("back 9", 1, 1, -9, 0, 1);
        tableIs("turn", 1, 0, 1, -1, 0);
        tableIs("turn turn", 2, 1, 0, 0, 1);
        tableIs("turn turn turn", 3, 0, 1, -1, 0);
        tableIs("turn turn turn turn", 4, 1, 0, 0, 1);
        tableIs("turn twist 1", 2, 1, -1, 1, 0);
        tableIs("turn back 1", 2, 1, 1, -1, 0);
        tableIs("twist 1 turn", 2, 0, 1, -1, -1);
        tableIs("back 1 turn", 2, 0, 1, -1, 1);
        tableIs("twist 9 twist 9 twist 9 twist 9 twist 9 twist 9 twist 9 twist 9", 8, 1, 72, 0, 1);
        tableIs("twist 9 turn twist 9 turn twist 9 turn twist 9", 7, 711, 6319, 80, 711);
        tableIs("twist 9 twist 9 turn twist 9 turn twist 9 turn twist 9", 8, 711, 12718, 80, 1431);
        tableIs("twist 9 turn back 9 turn twist 9 turn back 9", 7, 747, 6805, -82, -747);
        tableIs("back 9 turn twist 9 turn back 9 turn twist 9 turn", 8, 82, -747, -747, 6805);
        tableIs("turn back 3 turn back 3 turn back 3", 6, 21, 8, -8, -3);
        // it goes beyond 99 of each TANGLE, its TABLE stands all the same
        tableIs("twist 9 twist 9 twist 9 twist 9 twist 9 twist 9 twist 9 back 9", 8, 1, 54, 0, 1);
        promise(7, "Of a FIGURE: what 0 .. 3 a, b, c, d of its TABLE, 4 how many MOVES.");
        RopeDance x = with("figure f;figure g turn;figure h twist 2;figure i back 2;figure j turn turn;");
        int[][] due = {{1, 0, 0, 1, 0}, {0, 1, -1, 0, 1}, {1, 2, 0, 1, 1}, {1, -2, 0, 1, 1}, {1, 0, 0, 1, 2}};
        for (int figure = 0; figure < 5; figure++) {
            for (int what = 0; what < 5; what++) {
                is("figure(" + figure + ", " + what + ")", x.figure(figure, what), due[figure][what]);
            }
        }
        promise(7, "-1000000000 for others.");
        for (int none : NONE_OF_FIVE) {
            for (int what = -1; what <= 5; what++) {
                is("figure(" + none + ", " + what + ")", x.figure(none, what), -1000000000);
            }
            is("figure(4, " + none + ")", x.figure(4, none), -1000000000);
        }
        is("the first that is not", figure("").figure(1, 4), -1000000000);
        is("of none", with("square a;").figure(0, 0), -1000000000);
    }

    private static void orders() {
        terms("ORDER: how often it must be CALLED, once at least, so that any TANGLE is as it was, by its TABLE.");
        is("no MOVES", figure("").order(0), 1);
        is("two turns", figure("turn turn").order(0), 1);
        is("there and back", figure("twist 9 back 9").order(0), 1);
        is("there and back, beyond 99", figure("twist 9 twist 9 twist 9 twist 9 back 9 back 9 back 9 back 9").order(0), 1);
        is("a turn", figure("turn").order(0), 2);
        is("a turn elsewhere", figure("twist 9 turn back 9").order(0), 2);
        is("turn, twist 1", figure("turn twist 1").order(0), 3);
        is("turn, back 1", figure("turn back 1").order(0), 3);
        is("turn, twist 1, twice", figure("turn twist 1 turn twist 1").order(0), 3);
        is("turn, twist 1, thrice", figure("turn twist 1 turn twist 1 turn twist 1").order(0), 1);
        is("turn, twist 1 elsewhere", figure("twist 9 turn twist 1 back 9").order(0), 3);
        promise(25, "ORDER; -2: never; NONE: no such FIGURE.");
        is("twist 1", figure("twist 1").order(0), -2);
        is("back 9", figure("back 9").order(0), -2);
        is("turn, twist 2", figure("turn twist 2").order(0), -2);
        is("turn, back 2", figure("turn back 2").order(0), -2);
        is("turn, twist 3", figure("turn twist 3").order(0), -2);
        is("turn, twist 9", figure("turn twist 9").order(0), -2);
        is("it comes to what is beyond", figure("twist 9 twist 9 turn twist 9 turn twist 9 turn twist 9").order(0), -2);
        RopeDance x = with("figure f;figure g;figure h;figure i;figure j turn;");
        is("the last one", x.order(4), 2);
        for (int none : NONE_OF_FIVE) {
            is("order(" + none + ")", x.order(none), -1);
        }
        is("order(0) of none", with("square a;").order(0), -1);
    }

    private static void roundIs(String moves, int m, int due) {
        is("round of " + moves + " by " + m, figure(moves).round(0, m), due);
    }

    private static void rounds() {
        terms("ROUND of m (2 .. 97): how often till a and d of that row of MOVES leave 1 by m, or both m less 1, and b and c leave 0.");
        int[] ms = {2, 3, 8, 9, 96, 97};
        int[] twists = {2, 1, 8, 1, 32, 97};
        int[] turnTwists = {3, 2, 6, 6, 24, 49};
        for (int i = 0; i < ms.length; i++) {
            roundIs("", ms[i], 1);
            roundIs("turn turn", ms[i], 1);
            roundIs("turn", ms[i], 2);
            roundIs("turn twist 1", ms[i], 3);
            roundIs("twist 9", ms[i], twists[i]);
            roundIs("back 9", ms[i], twists[i]);
            roundIs("turn twist 3", ms[i], turnTwists[i]);
        }
        // a and d leave 3 by 8, 5 by 12, 11 by 15, which times itself leaves 1
        roundIs("turn back 3 turn back 3 turn back 3", 8, 2);
        roundIs("turn back 7 turn back 7 turn turn turn back 7", 12, 2);
        roundIs("twist 9 back 5 turn back 9 back 2 turn twist 4 turn", 15, 2);
        roundIs("turn twist 9", 77, 154);
        RopeDance y = with("figure f turn twist 3;figure g turn;");
        for (int i = 0; i < 2; i++) {
            // whatever was asked ahead of it
            y.power(0, 7, 89, 0);
            y.mind(0, 1);
            y.reverse(0);
            is("ROUND again", y.round(0, 97), 49);
            is("ROUND of the other", y.round(1, 97), 2);
        }
        promise(26, "ROUND; NONE: no such ones.");
        RopeDance x = with("figure f;figure g;figure h;figure i;figure j turn;");
        for (int m : new int[] {1, 0, -1, -2, 98, 99, 1000, LEAST, GREATEST}) {
            is("round(4, " + m + ")", x.round(4, m), -1);
            is("round(0, " + m + ")", x.round(0, m), -1);
        }
        for (int none : NONE_OF_FIVE) {
            is("round(" + none + ", 3)", x.round(none, 3), -1);
        }
    }

    private static void powerIs(String moves, int n, int m, int... due) {
        RopeDance x = figure(moves);
        for (int what = 0; what < 4; what++) {
            is("power(0, " + n + ", " + m + ", " + what + ") of " + moves, x.power(0, n, m, what), due[what]);
        }
    }

    private static void powers() {
        terms("POWER of n (0 .. 1,000,000,000) by m: the TABLE of its MOVES n times (signs as the MOVES give them),"
            + " the rests 0 .. m less 1 by m.");
        powerIs("turn twist 3", 0, 2, 1, 0, 0, 1);
        powerIs("turn twist 3", 0, 97, 1, 0, 0, 1);
        powerIs("turn twist 3", 1, 97, 3, 96, 1, 0);
        powerIs("turn twist 3", 1000000000, 97, 58, 46, 51, 2);
        powerIs("turn twist 3", 999999999, 2, 1, 0, 0, 1);
        powerIs("turn twist 3", 1, 2, 1, 1, 1, 0);
        powerIs("turn twist 3", 1, 3, 0, 2, 1, 0);
        powerIs("turn", 1, 2, 0, 1, 1, 0);
        powerIs("turn", 1, 97, 0, 96, 1, 0);
        powerIs("turn", 2, 97, 96, 0, 0, 96);
        powerIs("turn", 3, 97, 0, 1, 96, 0);
        powerIs("turn", 4, 97, 1, 0, 0, 1);
        powerIs("turn turn", 1, 97, 96, 0, 0, 96);
        // each number below 0 as the MOVES give it
        powerIs("turn turn turn", 1, 97, 0, 1, 96, 0);
        powerIs("twist 9 turn back 9 turn twist 9 turn back 9", 1, 97, 747 % 97, 6805 % 97, 15, 29);
        powerIs("back 9 turn twist 9 turn back 9 turn twist 9 turn", 1, 97, 82, 29, 29, 6805 % 97);
        powerIs("turn back 3 turn back 3 turn back 3", 1, 97, 76, 89, 8, 3);
        powerIs("turn back 3 turn back 3 turn back 3", 1000000000, 97, 35, 25, 72, 57);
        powerIs("twist 9", 1000000000, 96, 1, 0, 0, 1);
        powerIs("twist 9 twist 9 turn twist 9 turn twist 9 turn twist 9", 1, 97, 711 % 97, 12718 % 97, 80, 1431 % 97);
        powerIs("", 1000000000, 97, 1, 0, 0, 1);
        promise(27, "POWER: what 0 .. 3 a, b, c, d; NONE: no such ones.");
        RopeDance x = with("figure f;figure g;figure h;figure i;figure j turn;");
        for (int n : new int[] {-1, -2, 1000000001, LEAST, GREATEST}) {
            is("power(4, " + n + ", 5, 0)", x.power(4, n, 5, 0), -1);
        }
        for (int m : new int[] {1, 0, -1, -5, 98, 99, LEAST, GREATEST}) {
            is("power(4, 1, " + m + ", 1)", x.power(4, 1, m, 1), -1);
            is("power(4, 0, " + m + ", 0)", x.power(4, 0, m, 0), -1);
        }
        for (int what : NONE_OF_FOUR) {
            is("power(4, 1, 5, " + what + ")", x.power(4, 1, 5, what), -1);
        }
        for (int none : NONE_OF_FIVE) {
            is("power(" + none + ", 1, 5, 0)", x.power(none, 1, 5, 0), -1);
        }
    }

    private static void staysIs(String moves, int howMany, int p, int q) {
        RopeDance x = figure(moves);
        is("stays(0, 0) of " + moves, x.stays(0, 0), howMany);
        is("stays(0, 1) of " + moves, x.stays(0, 1), p);
        is("stays(0, 2) of " + moves, x.stays(0, 2), q);
    }

    private static void stays() {
        terms("STAYS: TANGLES that its TABLE makes as they were: how many; the first, by Q, then by P.");
        staysIs("", 12016, 1, 0);
        staysIs("turn turn", 12016, 1, 0);
        staysIs("twist 9 twist 9 twist 9 twist 9 back 9 back 9 back 9 back 9", 12016, 1, 0);
        staysIs("twist 1", 1, 1, 0);
        staysIs("back 9", 1, 1, 0);
        staysIs("back 9 turn turn", 1, 1, 0);
        staysIs("turn twist 1 turn", 1, 0, 1);
        staysIs("turn back 9 turn", 1, 0, 1);
        staysIs("turn twist 2", 1, 1, 1);
        staysIs("turn back 2", 1, -1, 1);
        staysIs("back 9 turn twist 9 turn back 9 back 2 turn twist 9", 1, 91, 10);
        staysIs("twist 9 turn back 9 turn twist 9 twist 2 turn back 9", 1, -91, 10);
        staysIs("back 9 back 9 turn twist 1 turn twist 9 twist 9", 1, 18, 1);
        promise(28, "STAYS: what 0 how many, 1 P, 2 Q of the first; -1000: there is none (0 how many), no such ones.");
        staysIs("turn", 0, -1000, -1000);
        staysIs("turn twist 1", 0, -1000, -1000);
        staysIs("turn back 1", 0, -1000, -1000);
        staysIs("turn twist 3", 0, -1000, -1000);
        staysIs("turn twist 9", 0, -1000, -1000);
        RopeDance x = with("figure f;figure g;figure h;figure i;figure j turn;");
        for (int what : new int[] {-1, 3, 4, LEAST, GREATEST}) {
            is("stays(0, " + what + ")", x.stays(0, what), -1000);
            is("stays(4, " + what + ")", x.stays(4, what), -1000);
        }
        for (int none : NONE_OF_FIVE) {
            for (int what = 0; what < 3; what++) {
                is("stays(" + none + ", " + what + ")", x.stays(none, what), -1000);
            }
        }
    }

    private static void mindIs(String one, String other, int due) {
        RopeDance x = with("figure f " + one + ";figure g " + other + ";");
        is(one + " and " + other, x.mind(0, 1), due);
        is(other + " and " + one, x.mind(1, 0), due);
    }

    private static void mind() {
        terms("MIND of two FIGURES: whether one behind the other have unlike TABLES both ways about.");
        RopeDance x = with("figure f twist 1;figure g turn;figure h twist 2 turn back 2;figure i;figure j turn turn;");
        int[][] due = {{0, 1, 1, 0, 0}, {1, 0, 1, 0, 0}, {1, 1, 0, 0, 0}, {0, 0, 0, 0, 0}, {0, 0, 0, 0, 0}};
        for (int figure = 0; figure < 5; figure++) {
            for (int other = 0; other < 5; other++) {
                is("mind(" + figure + ", " + other + ")", x.mind(figure, other), due[figure][other]);
            }
        }
        x = with("figure f turn;figure g turn turn turn;figure h twist 1;figure i back 1;figure j twist 9;");
        is("turns", x.mind(0, 1), 0);
        mindIs("turn", "back 1", 1);
        mindIs("back 1 turn", "turn", 1);
        mindIs("back 1 turn back 1 back 1", "twist 3 turn", 1);
        mindIs("twist 2 turn twist 1", "twist 3 turn", 1);
        mindIs("back 1 turn twist 1 turn", "twist 2 turn twist 1", 1);
        mindIs("back 1 turn twist 1 turn", "turn back 1 turn twist 1", 0);
        is("twist and back", x.mind(2, 3), 0);
        is("twist and twist", x.mind(2, 4), 0);
        promise(29, "MIND: 1, 0; NONE: no such FIGURES.");
        for (int none : NONE_OF_FIVE) {
            is("mind(" + none + ", 0)", x.mind(none, 0), -1);
            is("mind(4, " + none + ")", x.mind(4, none), -1);
            is("mind(" + none + ", " + none + ")", x.mind(none, none), -1);
        }
    }

    private static void reverse() {
        terms("REVERSE of a FIGURE: the FIGURE whose TABLE behind it is that of no MOVES, of alike ones the first.");
        RopeDance x = with("figure f twist 1;figure g back 1;figure h back 2 twist 1;figure i turn;figure j turn turn turn;");
        int[] due = {1, 0, 0, 3, 3};
        for (int figure = 0; figure < 5; figure++) {
            is("reverse(" + figure + ")", x.reverse(figure), due[figure]);
        }
        x = with("figure f twist 2;figure g;figure h turn turn;figure i turn twist 3;figure j back 3 turn;");
        int[] others = {-2, 1, 1, 4, 3};
        for (int figure = 0; figure < 5; figure++) {
            is("reverse(" + figure + ")", x.reverse(figure), others[figure]);
        }
        promise(30, "REVERSE; -2: none; NONE: no such FIGURE.");
        is("none", figure("twist 1").reverse(0), -2);
        is("itself", figure("").reverse(0), 0);
        for (int none : NONE_OF_FIVE) {
            is("reverse(" + none + ")", x.reverse(none), -1);
        }
    }

    private static void hands() {
        terms("HANDS of a FIGURE and ENDS: which ENDS it makes of these.");
        RopeDance x = with("figure f;figure g turn;figure h twist 9;figure i back 9 twist 1;figure j twist 1 turn;");
        int[][] due = {{0, 1, 2}, {2, 1, 0}, {1, 0, 2}, {0, 1, 2}, {1, 2, 0}};
        for (int figure = 0; figure < 5; figure++) {
            for (int ends = 0; ends < 3; ends++) {
                is("hands(" + figure + ", " + ends + ")", x.hands(figure, ends), due[figure][ends]);
            }
        }
        is("whatever may go beyond 99", figure("twist 9 twist 9 turn twist 9 turn twist 9 turn twist 9").hands(0, 0), 0);
        promise(31, "HANDS; NONE: no such ones.");
        for (int ends : NONE_OF_THREE) {
            is("hands(0, " + ends + ")", x.hands(0, ends), -1);
        }
        for (int none : NONE_OF_FIVE) {
            is("hands(" + none + ", 0)", x.hands(none, 0), -1);
        }
    }

    private static void then() {
        terms("IN n MINUTES (0 .. 60) of a SQUARE: P, Q, how tired.");
        String text = "square a;square b turn;square c twist 3;square d back 3;figure f twist 1;figure g turn;figure h back 2 turn;"
            + "tires=moves+cross;rests=2;slips=30+minute;seed 4321;";
        RopeDance x = with(text);
        x.minutes(7);
        for (int n : new int[] {0, 1, 59, 60}) {
            RopeDance y = with(text);
            y.minutes(7);
            y.minutes(n);
            for (int square = 0; square < 4; square++) {
                is("then(" + square + ", " + n + ", 0)", x.then(square, n, 0), y.square(square, 0));
                is("then(" + square + ", " + n + ", 1)", x.then(square, n, 1), y.square(square, 1));
                is("then(" + square + ", " + n + ", 2)", x.then(square, n, 2), y.square(square, 4));
            }
        }
        is("the minute", x.count(2), 7);
        is("things done", x.count(9), 1);
        // by how tired it is, how often it was called, its number and the minute
        text = "square a;square b;figure f twist 1;figure g turn;tires=called+minute+which;rests=called;slips=called*9+tired;";
        x = with(text);
        RopeDance z = with(text);
        for (int i = 0; i < 4; i++) {
            x.call(1, 0);
            z.call(1, 0);
        }
        x.minutes(2);
        z.minutes(2);
        z.minutes(5);
        for (int square = 0; square < 2; square++) {
            is("P", x.then(square, 5, 0), z.square(square, 0));
            is("Q", x.then(square, 5, 1), z.square(square, 1));
            is("tired", x.then(square, 5, 2), z.square(square, 4));
        }
        is("no FIGURES", with("square a twist 3;").then(0, 60, 0), 3);
        promise(32, "IN n MINUTES: what 0 P, 1 Q, 2 how tired; -1000: no such ones.");
        for (int n : new int[] {-1, 61, 62, 1000, LEAST, GREATEST}) {
            is("then(0, " + n + ", 0)", x.then(0, n, 0), -1000);
        }
        for (int what : NONE_OF_THREE) {
            is("then(0, 1, " + what + ")", x.then(0, 1, what), -1000);
        }
        for (int none : NONE_OF_FOUR) {
            is("then(" + none + ", 1, 0)", x.then(none, 1, 0), -1000);
            is("then(" + none + ", 0, 2)", x.then(none, 0, 2), -1000);
        }
    }

    private static void year() {
        terms("YEAR by s SEEDS (1 .. 20) from the text's SEED on: in how many of them a SQUARE is 0 / 1 in n MINUTES (0 .. 60).");
        String text = "square a twist 1;figure f back 1;figure g twist 1;seed ";
        is("in a MINUTE by 0", with(text + "0;").year(0, 1, 1), 0);
        is("in a MINUTE by 0 .. 19", with(text + "0;").year(0, 1, 20), 7);
        is("in a MINUTE by 9980 .. 9999", with(text + "9980;").year(0, 1, 20), 12);
        // the SEEDS behind 9999 are 10000 and on, not 0 and on
        is("in a MINUTE by 9999 .. 10018", with(text + "9999;").year(0, 1, 20), 8);
        is("in 59 MINUTES by 0 .. 19", with(text + "0;").year(0, 59, 20), 7);
        is("in 60 MINUTES by 0 .. 19", with(text + "0;").year(0, 60, 20), 0);
        is("in no MINUTES", with(text + "0;").year(0, 0, 20), 0);
        is("in no MINUTES, of 0 / 1", with("square a;figure f turn;").year(0, 0, 20), 20);
        is("no FIGURES", with("square a;square b turn;").year(0, 60, 20), 20);
        is("no FIGURES, of 1 / 0", with("square a;square b turn;").year(1, 60, 20), 0);
        // from the minute that it is
        RopeDance x = with(text + "0;");
        x.minutes(3);
        x.let(0);
        x.move(0, 0, 1);
        is("in a MINUTE from 3 on", x.year(0, 1, 20), 11);
        is("the minute", x.count(2), 3);
        tangle(x, 0, 1, 1);
        promise(33, "YEAR; NONE: no such ones.");
        for (int s : new int[] {0, -1, 21, 22, LEAST, GREATEST}) {
            is("year(0, 1, " + s + ")", x.year(0, 1, s), -1);
        }
        for (int n : new int[] {-1, 61, 62, LEAST, GREATEST}) {
            is("year(0, " + n + ", 1)", x.year(0, n, 1), -1);
        }
        for (int none : new int[] {-1, 1, 4, LEAST, GREATEST}) {
            is("year(" + none + ", 1, 1)", x.year(none, 1, 1), -1);
        }
    }
}
