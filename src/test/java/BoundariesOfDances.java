/** Part II of 'Terms' and promises 6, 8 to 14, 38 to 40: TANGLES, MOVES, LAWS, LOTS, what is done and undone. */
final class BoundariesOfDances extends Sentences {
    private BoundariesOfDances() {
    }

    static void run() {
        tangles();
        movesOfTangles();
        movesBeyond();
        crossings();
        ends();
        firstThatHolds();
        wrapping();
        byNothing();
        ofSquares();
        held();
        lots();
        called();
        minutesOfSquares();
        slipping();
        resting();
        byHand();
        squares();
        tires();
        after();
        calls();
        moves();
        lets();
        minutes();
        undo();
        hold();
        wholeEvenings();
        restore();
        count();
    }

    private static int greatest(int a, int b) {
        return b == 0 ? a : greatest(b, a % b);
    }

    private static void tangles() {
        terms("==== II. A TANGLE: P / Q, without a common part, Q from 0 to 99, P from -99 to 99; Q 0: 1 / 0 alone; P 0: 0 / 1 alone.");
        at(99, 1, "99");
        at(-99, 1, "-99");
        at(-1, 99, "99 turn");
        at(1, 99, "-99 turn");
        at(98, 99, "99 turn 1");
        at(-98, 99, "-99 turn -1");
        at(99, 98, "-99 turn -1 turn");
        at(-99, 98, "99 turn 1 turn");
        at(1, 0, "turn");
        at(0, 1, "");
        at(-1, 2, "2 turn");
        at(1, 2, "2 turn 1");
        RopeDance x = with("square a;");
        int chance = 1;
        for (int i = 0; i < 160; i++) {
            chance = (chance * 75 + 74) % 65537;
            x.move(0, chance % 3, 1 + chance / 3 % 4);
            int p = x.square(0, 0);
            int q = x.square(0, 1);
            is("without a common part: " + p + " / " + q, greatest(Math.abs(p), q), 1);
            is("Q of " + p + " / " + q, q >= 0 && q <= 99, true);
            is("P of " + p + " / " + q, p >= (q == 0 ? 1 : -99) && p <= (q == 0 ? 1 : 99), true);
        }
    }

    private static void movesOfTangles() {
        terms("A MOVE makes of P / Q: twist k: (P + k * Q) / Q; back k: (P - k * Q) / Q;"
            + " turn: -Q / P (with a P below 0 both signs changed; of 1 / 0: 0 / 1; of 0 / 1: 1 / 0).");
        for (int k = 1; k <= 9; k++) {
            RopeDance x = at(1, 2, "2 turn 1");
            x.move(0, 0, k);
            tangle(x, 0, 1 + 2 * k, 2);
            x.undo();
            x.move(0, 1, k);
            tangle(x, 0, 1 - 2 * k, 2);
            x = at(1, 0, "turn");
            is("twist of 1 / 0", x.move(0, 0, k), true);
            tangle(x, 0, 1, 0);
            is("back of 1 / 0", x.move(0, 1, k), true);
            tangle(x, 0, 1, 0);
        }
        at(0, 1, "turn turn");
        at(0, 1, "3 -3");
        at(-1, 3, "3 turn");
        at(1, 3, "-3 turn");
        at(3, 1, "3 turn turn");
        at(-3, 1, "-3 turn turn");
        at(1, 1, "-1 turn");
        at(-1, 1, "1 turn");
        at(-99, 98, "99 turn 1 turn");
        at(98, 99, "99 turn 1 turn turn");
    }

    private static void movesBeyond() {
        terms("It can not be made if that goes beyond 99;");
        RopeDance x = at(90, 1, "90");
        is("to 99", x.move(0, 0, 9), true);
        is("to 100", x.move(0, 0, 1), false);
        tangle(x, 0, 99, 1);
        x = at(91, 1, "91");
        is("to 100", x.move(0, 0, 9), false);
        is("to 99", x.move(0, 0, 8), true);
        x = at(-90, 1, "-90");
        is("to -99", x.move(0, 1, 9), true);
        is("to -100", x.move(0, 1, 1), false);
        tangle(x, 0, -99, 1);
        x = at(-91, 1, "-91");
        is("to -100", x.move(0, 1, 9), false);
        is("to -99", x.move(0, 1, 8), true);
        // Q 11: 1 / 11 and 9 twists come to 100, -1 / 11 and 9 to 98
        x = at(1, 11, "-11 turn");
        is("to 100 / 11", x.move(0, 0, 9), false);
        is("to 89 / 11", x.move(0, 0, 8), true);
        x = at(-1, 11, "11 turn");
        is("to 98 / 11", x.move(0, 0, 9), true);
        x = at(-1, 11, "11 turn");
        is("to -100 / 11", x.move(0, 1, 9), false);
        // a turn never goes beyond
        x = at(99, 98, "-99 turn -1 turn");
        is("turn of 99 / 98", x.move(0, 2, 0), true);
        tangle(x, 0, -98, 99);
        terms("a row of MOVES can not, if any of them can not, one behind the other.");
        x = at(95, 1, "95");
        is("twist 9, back 9 of 95", x.after(0, 3, 0), -1000);
        is("back 9, twist 9 of 95", x.after(0, 4, 0), 95);
        is("called", x.call(0, 3), -1);
        is("called", x.call(0, 4), 95);
        x = at(-95, 1, "-95");
        is("twist 9, back 9 of -95", x.after(0, 3, 0), -95);
        is("back 9, twist 9 of -95", x.after(0, 4, 0), -1000);
        is("back 9 of -95", x.after(0, 2, 0), -1000);
        is("turn of -95", x.after(0, 0, 1), 95);
    }

    private static void crossings() {
        terms("CROSSINGS of P / Q: P without its sign by Q, what goes in whole, then Q by the rest, and so on,"
            + " till there is no rest: all that goes in, added (1 / 0: 0).");
        is("1 / 0", at(1, 0, "turn").square(0, 2), 0);
        is("0 / 1", at(0, 1, "").square(0, 2), 0);
        is("1 / 1", at(1, 1, "1").square(0, 2), 1);
        is("-1 / 1", at(-1, 1, "-1").square(0, 2), 1);
        is("99 / 1", at(99, 1, "99").square(0, 2), 99);
        is("-99 / 1", at(-99, 1, "-99").square(0, 2), 99);
        is("1 / 99", at(1, 99, "-99 turn").square(0, 2), 99);
        is("-1 / 99", at(-1, 99, "99 turn").square(0, 2), 99);
        is("98 / 99", at(98, 99, "99 turn 1").square(0, 2), 99);
        is("-99 / 98", at(-99, 98, "99 turn 1 turn").square(0, 2), 99);
        is("-2 / 19", at(-2, 19, "2 turn 10 turn").square(0, 2), 11);
        is("5 / 3", at(5, 3, "3 turn 2").square(0, 2), 4);
        // each goes in once, and the last one twice
        is("89 / 55", at(89, 55, "-2 turn -3 turn -3 turn -3 turn -2 turn 1").square(0, 2), 10);
        is("-89 / 55", at(-89, 55, "2 turn 3 turn 3 turn 3 turn 2 turn -1").square(0, 2), 10);
    }

    private static void ends() {
        terms("ENDS: 0 if P is even, 1 if P and Q are odd, 2 if Q is even.");
        is("0 / 1", at(0, 1, "").square(0, 3), 0);
        is("1 / 0", at(1, 0, "turn").square(0, 3), 2);
        is("1 / 1", at(1, 1, "1").square(0, 3), 1);
        is("-1 / 1", at(-1, 1, "-1").square(0, 3), 1);
        is("-2 / 1", at(-2, 1, "-2").square(0, 3), 0);
        is("1 / 2", at(1, 2, "-2 turn").square(0, 3), 2);
        is("-1 / 2", at(-1, 2, "2 turn").square(0, 3), 2);
        is("-99 / 1", at(-99, 1, "-99").square(0, 3), 1);
        is("98 / 99", at(98, 99, "99 turn 1").square(0, 3), 0);
        is("-98 / 99", at(-98, 99, "-99 turn -1").square(0, 3), 0);
        is("-99 / 98", at(-99, 98, "99 turn 1 turn").square(0, 3), 2);
        is("-5 / 3", at(-5, 3, "-3 turn -2").square(0, 3), 1);
    }

    /** What a LAW comes to of 5 / 3, by PAYS, which is held to 0 .. 99. */
    private static int pays(String law) {
        return with("square a twist 3 turn twist 2;pays=" + law + ";").square(0, 6);
    }

    private static void firstThatHolds() {
        terms("LAWS: the E of the first if that holds (one less than the other), else the last one;");
        is("less", pays("if 4<5 then 1 else 2"), 1);
        is("alike", pays("if 5<5 then 1 else 2"), 2);
        is("more", pays("if 6<5 then 1 else 2"), 2);
        is("below 0", pays("if 0-1<0 then 1 else 2"), 1);
        is("below 0, the other way", pays("if 0<0-1 then 1 else 2"), 2);
        is("the least one", pays("if 256*256*256*128<256*256*256*128-1 then 1 else 2"), 1);
        String four = "if over<A then 1 else if over<B then 2 else if over<C then 3 else if over<D then 4 else 5";
        String[] names = {"A", "B", "C", "D"};
        for (int first = 0; first <= 4; first++) {
            String law = four;
            for (int i = 0; i < 4; i++) {
                law = law.replace(names[i], i >= first ? "6" : "5");
            }
            is("from " + first + " on they hold", pays(law), first + 1);
        }
        is("the first alone holds", pays("if 1<2 then 7 else if 2<1 then 8 else 9"), 7);
        is("none, the last one is a long one", pays("if 2<1 then 7 else (over+1)*2"), 12);
    }

    private static void wrapping() {
        terms("ints of 32 bits that wrap, / rounded towards 0;");
        String least = "256*256*256*128";
        is("2147483648 is below 0", pays("if " + least + "<0 then 1 else 2"), 1);
        is("1 less is the greatest", pays("if " + least + "-1<0 then 1 else 2"), 2);
        is("the greatest and 1", pays("if (" + least + "-1)+1<0 then 1 else 2"), 1);
        is("the least less 1", pays("if (" + least + ")-1<0 then 1 else 2"), 2);
        is("0 less the least", pays("if 0-" + least + "<0 then 1 else 2"), 1);
        is("the least times -1", pays("if " + least + "*(0-1)<0 then 1 else 2"), 1);
        is("the least by -1", pays("if " + least + "/(0-1)<0 then 1 else 2"), 1);
        is("the least by -1, and the least", pays(least + "/(0-1)+" + least + "+3"), 3);
        is("all bits gone", pays("256*256*256*256+7"), 7);
        // 999700029999 is -1027349969 in 32 bits
        is("9999 * 9999 * 9999", pays("if 9999*9999*9999<0-1027*1000*1000-349*1000-968 then 1 else 2"), 1);
        is("9999 * 9999 * 9999", pays("if 9999*9999*9999<0-1027*1000*1000-349*1000-969 then 1 else 2"), 2);
        is("-7 by 2", pays("10+(0-7)/2"), 7);
        is("7 by -2", pays("10+7/(0-2)"), 7);
        is("-7 by -2", pays("10+(0-7)/(0-2)"), 13);
        is("-1 by 2", pays("10+(0-1)/2"), 10);
        is("1 by 2", pays("10+1/2"), 10);
        is("9 by 9999", pays("10+9/9999"), 10);
        is("0 by 5", pays("10+0/5"), 10);
    }

    private static void byNothing() {
        terms("a LAW in which something that is looked at is divided by 0 is 0.");
        is("by 0", pays("5/0"), 0);
        is("0 by 0", pays("0/0"), 0);
        is("and more", pays("7+5/0+7"), 0);
        is("times 0", pays("7+0*(5/0)"), 0);
        is("by what comes to 0", pays("9+1/(over-5)"), 0);
        is("by what is rounded to 0", pays("9+1/(1/2)"), 0);
        is("in the if that is asked, on the left", pays("if 1/0<1 then 3 else 4"), 0);
        is("in the if that is asked, on the right", pays("if 0-1<1/0 then 3 else 4"), 0);
        is("in the if asked next", pays("if 2<1 then 3 else if 1/0<1 then 4 else 5"), 0);
        is("in the then that is taken", pays("if 1<2 then 1/0 else 4"), 0);
        is("in the else that is taken", pays("if 2<1 then 3 else 4/0"), 0);
        // what is not looked at
        is("in the else that is not taken", pays("if 1<2 then 3 else 4/0"), 3);
        is("in the then that is not taken", pays("if 2<1 then 3/0 else 4"), 4);
        is("in an if that is not asked", pays("if 1<2 then 3 else if 1/0<1 then 4 else 5"), 3);
        is("in a then behind it", pays("if 1<2 then 3 else if 1<2 then 1/0 else 5"), 3);
        for (String law : new String[] {"tires", "rests", "pays", "slips"}) {
            RopeDance x = with("square a;figure f;" + law + "=50+1/over;");
            int what = law.equals("rests") ? 5 : law.equals("pays") ? 6 : 7;
            is(law + " of 0 / 1", law.equals("tires") ? x.tires(0, 0) : x.square(0, what), 0);
            x.move(0, 0, 1);
            is(law + " of 1 / 1", law.equals("tires") ? x.tires(0, 0) : x.square(0, what), 51);
        }
    }

    private static void ofSquares() {
        terms("Of a SQUARE: over: P without its sign; under: Q; cross: its CROSSINGS; ends; tired: how tired it is;"
            + " minute; which: its number; called: how many FIGURES it was called so far; moves: 0.");
        int[][] due = {{99, 1, 99, 1}, {1, 0, 0, 2}, {0, 1, 0, 0}, {5, 3, 4, 1}};
        String[] vars = {"over", "under", "cross", "ends"};
        for (int i = 0; i < 4; i++) {
            RopeDance x = with("square a;square b turn;square c;square d back 3 turn back 2;figure f;pays=" + vars[i] + ";");
            for (int left = 0; left < 11; left++) {
                x.move(0, 1, 9);
            }
            for (int square = 0; square < 4; square++) {
                is(vars[i] + " of SQUARE " + square, x.square(square, 6), due[square][i]);
            }
        }
        RopeDance x = with("square a;square b;square c;square d;figure f turn turn;tires=99;rests=which+1;"
            + "slips=tired/10+moves*50;pays=called+moves*50;");
        for (int square = 0; square < 4; square++) {
            is("which", x.square(square, 5), square + 1);
            for (int i = 0; i < square * 4; i++) {
                x.call(square, 0);
            }
        }
        for (int square = 0; square < 4; square++) {
            is("tired of SQUARE " + square, x.square(square, 7), Math.min(100, Math.min(999, square * 4 * 99) / 10));
            is("called of SQUARE " + square, x.square(square, 6), square * 4);
        }
        x = with("square a;pays=minute;slips=minute/2;");
        is("minute 0", x.square(0, 6), 0);
        x.minutes(60);
        x.minutes(38);
        is("minute 98", x.square(0, 6), 98);
        is("minute 98, half", x.square(0, 7), 49);
        is("paid by the minutes 0 .. 97", x.count(3), 97 * 98 / 2);
        x = with("square a;figure f twist 9 twist 9 twist 9 twist 9 twist 9 twist 9 twist 9;tires=50;rests=1+moves*9;"
            + "pays=2+moves*9;slips=3+moves*97;");
        for (int what = 5; what < 8; what++) {
            is("LAW " + (what - 4) + " with no moves", x.square(0, what), what - 4);
        }
        x.minutes(1);
        tangle(x, 0, 63, 1);
        x.minutes(1);
        tangle(x, 0, 63, 1);
        is("RESTS of a MINUTE with no moves", x.square(0, 4), 49);
        is("PAYS of MINUTES with no moves", x.count(3), 4);
        // the LOT of 100 of SEED 0 is 53, which is less than 54, but not less than 53
        x = with("square a;figure f twist 1;slips=53+moves;");
        x.minutes(1);
        is("SLIPS of a MINUTE with no moves", x.square(0, 0), 1);
        x = with("square a;figure f twist 1;slips=54+moves;");
        x.minutes(1);
        is("SLIPS of a MINUTE with no moves", x.square(0, 0), 0);
        terms("TIRES (of a SQUARE and a FIGURE: moves: how many MOVES the FIGURE has; all else as it is ahead of it),"
            + " RESTS, PAYS, held to 0 .. 99, SLIPS, held to 0 .. 100.");
        x = with("square a;figure f;figure g turn turn turn turn turn turn turn turn;"
            + "figure h twist 9 twist 9 twist 9;tires=moves*10+over;");
        is("TIRES of no MOVES", x.tires(0, 0), 0);
        is("TIRES of eight MOVES", x.tires(0, 1), 80);
        is("TIRES ahead of it", x.tires(0, 2), 30);
        x.call(0, 2);
        is("tired by it", x.square(0, 4), 30);
        is("TIRES then", x.tires(0, 2), 57);
        x = with("square a twist 9;figure f twist 9;tires=called*10+tired+minute+over+which+1;");
        is("called the first time", x.call(0, 0), 18);
        is("tired", x.square(0, 4), 10);
        x.minutes(1);
        is("tired by the next one", x.square(0, 4), 10 + 10 + 10 + 18 + 1);
    }

    private static void held() {
        terms("RESTS, PAYS, held to 0 .. 99, SLIPS, held to 0 .. 100.");
        String[] laws = {"0-9999", "0-1", "0", "1", "98", "99", "100", "101", "9999", "256*256*256*128-1", "256*256*256*128"};
        int[] worth = {-9999, -1, 0, 1, 98, 99, 100, 101, 9999, GREATEST, LEAST};
        for (int i = 0; i < laws.length; i++) {
            RopeDance x = with("square a;figure f twist 1;tires=" + laws[i] + ";rests=" + laws[i] + ";pays=" + laws[i]
                + ";slips=" + laws[i] + ";");
            int due = Math.max(0, Math.min(99, worth[i]));
            is("TIRES of " + laws[i], x.tires(0, 0), due);
            is("RESTS of " + laws[i], x.square(0, 5), due);
            is("PAYS of " + laws[i], x.square(0, 6), due);
            is("SLIPS of " + laws[i], x.square(0, 7), Math.max(0, Math.min(100, worth[i])));
            x.call(0, 0);
            is("tired by " + laws[i], x.square(0, 4), due);
            x.minutes(1);
            is("paid by " + laws[i], x.count(3), due);
        }
    }

    /** The FIGURES, one more, by which SQUARES that are let go each time are 1 .. 5. */
    private static final String FIVE = "figure f twist 1;figure g twist 2;figure h twist 3;figure i twist 4;figure j twist 5;";

    private static void lots() {
        terms("LOT n of a SEED and a which: h is the SEED; for each of 209, which: h becomes (h and it, each bit of which"
            + " is in just one) times 1103515245 and 12345 more, then h and h moved 15 bits down (zeros come in), likewise;"
            + " the rest of h, moved 1 bit down likewise, by n (32 bits that wrap).");
        int[][] of0 = {{2, 3, 4, 4, 5, 4}, {3, 1, 5, 5, 5, 3}, {5, 3, 4, 5, 5, 5}, {3, 5, 5, 2, 4, 3}};
        int[][] of9999 = {{1, 3, 4, 1, 4, 4}, {1, 3, 1, 4, 3, 4}, {5, 4, 2, 2, 2, 1}, {4, 1, 1, 3, 1, 3}};
        int[][] late0 = {{4, 4, 2, 1, 3, 4}, null, null, {2, 5, 1, 4, 3, 1}};
        int[][] late9999 = {{2, 5, 1, 4, 5, 3}, null, null, {2, 5, 5, 3, 1, 2}};
        figuresAre("0", 0, of0);
        figuresAre("9999", 0, of9999);
        figuresAre("0", 60, late0);
        figuresAre("9999", 60, late9999);
        // LOT 1 is 0, whatever it is of
        RopeDance x = with("square a;figure f twist 1;seed 9999;");
        x.minutes(60);
        is("of one FIGURE", x.square(0, 0), 60);
    }

    private static void figuresAre(String seed, int from, int[][] due) {
        RopeDance x = with("square a;square b;square c;square d;" + FIVE + "seed " + seed + ";");
        x.minutes(from);
        for (int minute = 0; minute < 6; minute++) {
            for (int square = 0; square < 4; square++) {
                x.let(square);
            }
            is("minutes(1)", x.minutes(1), from + minute + 1);
            for (int square = 0; square < 4; square++) {
                if (due[square] != null) {
                    String what = "SEED " + seed + ", minute " + (from + minute) + ", SQUARE " + square;
                    is(what, x.square(square, 0), due[square][minute]);
                }
            }
        }
    }

    private static void called() {
        terms("A FIGURE is CALLED to a SQUARE, if its MOVES can be made there: the TANGLE is what they make of it,"
            + " it is TIRES more tired (999 at most), it was called one more.");
        RopeDance x = with("square a;figure f turn turn;figure g twist 9 twist 9 twist 9 twist 9 twist 9 twist 9 twist 9;tires=99;");
        for (int i = 1; i <= 12; i++) {
            is("call " + i, x.call(0, 0), 0);
            is("tired", x.square(0, 4), Math.min(999, 99 * i));
            is("called", x.square(0, 8), i);
        }
        x.call(0, 1);
        tangle(x, 0, 63, 1);
        is("tired", x.square(0, 4), 999);
        is("one that can not be made", x.call(0, 1), -1);
        is("called", x.square(0, 8), 13);
        x = with("square a;figure f;tires=99;rests=99;");
        x.minutes(11);
        is("tired by MINUTES", x.square(0, 4), 999);
        is("called by MINUTES", x.square(0, 8), 11);
        x = with("square a;figure f;tires=if called<10 then 99 else 9;");
        x.minutes(11);
        is("tired just at the most", x.square(0, 4), 999);
        x = with("square a;figure f;tires=if called<10 then 99 else 8;");
        x.minutes(11);
        is("tired just below the most", x.square(0, 4), 998);
    }

    private static void minutesOfSquares() {
        terms("A MINUTE, of each SQUARE by how it is: PAYS are paid; if there are FIGURES, that with LOT of how many they are of"
            + " the SEED and 8 * the minute and the SQUARE's number as its number is tried:");
        RopeDance x = with("square a twist 1;square b twist 9;figure f twist 1;pays=over;");
        x.minutes(1);
        is("paid by how they were", x.count(3), 10);
        x.minutes(1);
        is("paid by how they were then", x.count(3), 10 + 12);
        x = with("square a twist 1;square b turn;pays=over+under;");
        x.minutes(60);
        is("paid without FIGURES", x.count(3), 60 * 3);
        x = with("figure f;");
        is("without SQUARES", x.minutes(60), 60);
        is("paid without SQUARES", x.count(3), 0);
        x = with("square a;figure f;pays=9999;");
        x.minutes(60);
        x.minutes(60);
        is("paid at most", x.count(3), 120 * 99);
    }

    private static void slipping() {
        terms("if LOT 100 of the SEED and 100,000 and 8 * the minute and the SQUARE's number is less than SLIPS,"
            + " without its last MOVE (TIRES as with it):");
        // LOTS of 100, by SEED, minute and SQUARE: 53 by 0, 0, 0; 0 by 0, 1, 0; 99 by 273, 0, 0; 78 by 5, 0, 1; 38 by 5, 0, 3
        slips(0, 0, 0, 53);
        slips(0, 1, 0, 0);
        slips(273, 0, 0, 99);
        slips(5, 0, 1, 78);
        slips(5, 0, 3, 38);
        slips(5, 7, 2, 66);
        RopeDance x = with("square a;figure f twist 1 twist 2 twist 3;tires=moves*10;slips=100;");
        x.minutes(1);
        tangle(x, 0, 3, 1);
        is("TIRES as with it", x.square(0, 4), 30);
        x = with("square a;figure f twist 1;tires=moves*10+5;slips=100;");
        x.minutes(1);
        tangle(x, 0, 0, 1);
        is("TIRES of its one MOVE", x.square(0, 4), 15);
        is("called without any MOVE", x.square(0, 8), 1);
        x = with("square a twist 4;figure f;tires=moves*10+5;slips=100;");
        x.minutes(1);
        tangle(x, 0, 4, 1);
        is("TIRES of no MOVES", x.square(0, 4), 5);
        is("called that has no MOVES", x.square(0, 8), 1);
        // SLIPS by how it is ahead of it
        x = with("square a twist 4;figure f twist 1 turn;slips=(over-3)*100;");
        x.minutes(1);
        tangle(x, 0, 5, 1);
    }

    /** By a LOT as high as SLIPS the last MOVE stays, by one less it is left out. */
    private static void slips(int seed, int minute, int square, int lot) {
        for (int slips = Math.max(0, lot - 1); slips <= lot + 1; slips++) {
            RopeDance x = with("square a;square b;square c;square d;figure f twist 1 twist 2;seed " + seed + ";slips=" + slips + ";");
            x.minutes(minute);
            x.let(square);
            x.minutes(1);
            is("SLIPS " + slips + " by SEED " + seed + ", minute " + minute + ", SQUARE " + square, x.square(square, 0), lot < slips ? 1 : 3);
        }
    }

    private static void resting() {
        terms("if that can be made, it is CALLED so; else, or if there are no FIGURES, the SQUARE RESTS: RESTS less tired (0 at least).");
        // all of it comes to 108, without the last MOVE it comes to 99
        String text = "square a;figure f twist 9 twist 9;tires=7;rests=3;slips=if 89<over then S else 0;";
        RopeDance x = with(text.replace("S", "100"));
        x.minutes(5);
        tangle(x, 0, 90, 1);
        is("tired", x.square(0, 4), 35);
        x.minutes(1);
        tangle(x, 0, 99, 1);
        is("called so", x.square(0, 8), 6);
        is("tired so", x.square(0, 4), 42);
        x.minutes(1);
        tangle(x, 0, 99, 1);
        is("can not be made so", x.square(0, 8), 6);
        is("rests", x.square(0, 4), 39);
        x = with(text.replace("S", "0"));
        x.minutes(6);
        tangle(x, 0, 90, 1);
        is("can not be made", x.square(0, 8), 5);
        is("rests", x.square(0, 4), 32);
        x.minutes(10);
        is("rests on", x.square(0, 4), 2);
        x.minutes(1);
        is("0 at least", x.square(0, 4), 0);
        x.minutes(1);
        is("0 at least, then too", x.square(0, 4), 0);
        is("what a SQUARE that is 0 tired RESTS", with("square a;rests=99;").minutes(60), 60);
        x = with("square a;rests=99;");
        x.minutes(60);
        is("no FIGURES", x.square(0, 4), 0);
        is("no FIGURES", x.square(0, 8), 0);
        // RESTS by how tired it is ahead of it
        x = with("square a;figure f twist 9 twist 9 twist 9 twist 9 twist 9 twist 9;tires=99;rests=tired/2;");
        x.minutes(4);
        is("half, half and half", x.square(0, 4), 13);
        terms("It is the next minute.");
        is("minutes(1)", x.minutes(1), 5);
        is("the minute", x.count(2), 5);
    }

    private static void byHand() {
        terms("By hand: a FIGURE is CALLED; one MOVE is made (nobody tires); ropes are let go: the TANGLE is 0 / 1; MINUTES go by.");
        RopeDance x = with("square a twist 3;figure f twist 1 twist 2;tires=9;slips=100;pays=50;");
        is("a whole FIGURE", x.call(0, 0), 6);
        is("paid", x.count(3), 0);
        is("the minute", x.count(2), 0);
        is("tired", x.square(0, 4), 9);
        x.move(0, 0, 1);
        is("tired by a MOVE", x.square(0, 4), 9);
        is("called by a MOVE", x.square(0, 8), 1);
        x.let(0);
        tangle(x, 0, 0, 1);
        is("tired, let go", x.square(0, 4), 9);
        is("called, let go", x.square(0, 8), 1);
        is("minutes", x.minutes(1), 1);
        is("paid", x.count(3), 50);
    }

    private static RopeDance four() {
        return with("square a twist 5;square b back 5;square c turn;square d;figure f twist 1;figure g turn;figure h turn twist 9;"
            + "rests=11;pays=12;slips=13;");
    }

    private static void squares() {
        promise(6, "Of a SQUARE: what 0 P, 1 Q, 2 CROSSINGS, 3 ENDS, 4 how tired, 5 RESTS, 6 PAYS, 7 SLIPS now,"
            + " 8 how many FIGURES it was called.");
        int[][] due = {{5, 1, 5, 1, 0, 11, 12, 13, 0}, {-5, 1, 5, 1, 0, 11, 12, 13, 0}, {1, 0, 0, 2, 0, 11, 12, 13, 0},
            {0, 1, 0, 0, 0, 11, 12, 13, 0}};
        RopeDance x = four();
        for (int square = 0; square < 4; square++) {
            for (int what = 0; what < 9; what++) {
                is("square(" + square + ", " + what + ")", x.square(square, what), due[square][what]);
            }
        }
        promise(6, "-1000 for others.");
        for (int square : NONE_OF_FOUR) {
            for (int what = -1; what <= 9; what++) {
                is("square(" + square + ", " + what + ")", x.square(square, what), -1000);
            }
        }
        for (int what : new int[] {-1, 9, 10, 1000, LEAST, GREATEST}) {
            is("square(0, " + what + ")", x.square(0, what), -1000);
        }
        is("the first that is not", with("square a;").square(1, 0), -1000);
        is("of none", with("").square(0, 0), -1000);
    }

    private static void tires() {
        promise(8, "TIRES now; NONE: no such ones.");
        RopeDance x = four();
        is("of the first ones", x.tires(0, 0), 1);
        is("of the last ones", x.tires(3, 2), 2);
        is("of one that can not be made", with("square a back 9;figure f turn twist 9 turn twist 9 turn twist 9;").tires(0, 0), 6);
        for (int none : NONE_OF_FOUR) {
            is("tires(" + none + ", 0)", x.tires(none, 0), -1);
        }
        for (int none : new int[] {-1, 3, 4, 5, LEAST, GREATEST}) {
            is("tires(0, " + none + ")", x.tires(0, none), -1);
        }
        is("neither", x.tires(4, 3), -1);
        is("no FIGURES", with("square a;").tires(0, 0), -1);
        is("no SQUARES", with("figure a;").tires(0, 0), -1);
    }

    private static void after() {
        promise(9, "What a FIGURE would make of a SQUARE: what 0 P, 1 Q; -1000: it can not be made, no such ones.");
        RopeDance x = four();
        is("P", x.after(3, 2, 0), 1);
        is("Q", x.after(3, 2, 1), 0);
        is("P of below 0", x.after(1, 0, 0), -4);
        tangle(x, 1, -5, 1);
        is("it is not CALLED", x.count(7), 0);
        is("it is no thing done", x.count(9), 0);
        for (int what : new int[] {-1, 2, 3, LEAST, GREATEST}) {
            is("after(0, 0, " + what + ")", x.after(0, 0, what), -1000);
        }
        for (int none : NONE_OF_FOUR) {
            is("after(" + none + ", 0, 0)", x.after(none, 0, 0), -1000);
        }
        for (int none : new int[] {-1, 3, 4, 5, LEAST, GREATEST}) {
            is("after(0, " + none + ", 1)", x.after(0, none, 1), -1000);
        }
        x = at(90, 1, "90");
        is("to 99", x.after(0, 1, 0), 99);
        x.move(0, 0, 1);
        is("P of what can not be made", x.after(0, 1, 0), -1000);
        is("Q of what can not be made", x.after(0, 1, 1), -1000);
        tangle(x, 0, 91, 1);
    }

    private static void calls() {
        promise(10, "CALLED: the CROSSINGS then;");
        RopeDance x = four();
        is("5 / 1, twist 1", x.call(0, 0), 6);
        is("1 / 0, turn", x.call(2, 1), 0);
        is("0 / 1, turn", x.call(3, 1), 0);
        is("-5 / 1, turn, twist 9", x.call(1, 2), 14);
        promise(10, "NONE, and nothing happens: it can not be made, no such ones.");
        x = at(91, 1, "91");
        int done = x.count(9);
        is("beyond 99", x.call(0, 1), -1);
        is("beyond 99 on the way", x.call(0, 3), -1);
        for (int none : new int[] {-1, 1, 4, LEAST, GREATEST}) {
            is("call(" + none + ", 0)", x.call(none, 0), -1);
        }
        for (int none : NONE_OF_FIVE) {
            is("call(0, " + none + ")", x.call(0, none), -1);
        }
        tangle(x, 0, 91, 1);
        is("tired", x.count(6), 0);
        is("called", x.count(7), 0);
        is("things done", x.count(9), done);
        // one that can not be made is in no other one's way
        x = with("square a;square b;figure f twist 9 turn;");
        walk(x, 0, "95");
        for (int i = 0; i < 3; i++) {
            done = x.count(9);
            is("of 95 / 1", x.call(0, 0), -1);
            is("things done", x.count(9), done);
            is("of the other", x.call(1, 0), i == 0 ? 9 : i == 1 ? 17 : -1);
            is("things done", x.count(9), i < 2 ? done + 1 : done);
        }
    }

    private static void moves() {
        promise(11, "One MOVE: what 0 a twist of k, 1 a back of k (1 .. 9), 2 a turn (whatever k): true;");
        for (int k : new int[] {1, 9}) {
            RopeDance x = four();
            is("twist of " + k, x.move(3, 0, k), true);
            tangle(x, 3, k, 1);
            is("back of " + k, x.move(2, 1, k), true);
            is("back of " + k, x.move(0, 1, k), true);
            tangle(x, 0, 5 - k, 1);
        }
        for (int k : new int[] {LEAST, -1, 0, 1, 9, 10, GREATEST}) {
            RopeDance x = four();
            is("turn of " + k, x.move(0, 2, k), true);
            tangle(x, 0, -1, 5);
        }
        promise(11, "false, and nothing happens: it can not be made, no such ones.");
        RopeDance x = at(99, 1, "99");
        int done = x.count(9);
        is("twist of 1", x.move(0, 0, 1), false);
        for (int k : new int[] {0, -1, -9, 10, 11, 100, LEAST, GREATEST}) {
            is("twist of " + k, x.move(0, 0, k), false);
            is("back of " + k, x.move(0, 1, k), false);
        }
        for (int what : new int[] {-1, 3, 4, LEAST, GREATEST}) {
            is("what " + what, x.move(0, what, 1), false);
        }
        for (int none : new int[] {-1, 1, 2, LEAST, GREATEST}) {
            is("SQUARE " + none, x.move(none, 2, 1), false);
        }
        tangle(x, 0, 99, 1);
        is("things done", x.count(9), done);
        x = at(-99, 1, "-99");
        is("back of 1", x.move(0, 1, 1), false);
        tangle(x, 0, -99, 1);
    }

    private static void lets() {
        promise(12, "Ropes are let go: true; false, and nothing happens: it is 0 / 1, no such SQUARE.");
        RopeDance x = four();
        is("5 / 1", x.let(0), true);
        is("5 / 1 again", x.let(0), false);
        is("-5 / 1", x.let(1), true);
        is("1 / 0", x.let(2), true);
        is("0 / 1", x.let(3), false);
        for (int square = 0; square < 4; square++) {
            tangle(x, square, 0, 1);
        }
        for (int none : NONE_OF_FOUR) {
            is("let(" + none + ")", x.let(none), false);
        }
        is("things done", x.count(9), 3);
    }

    private static void minutes() {
        promise(13, "n MINUTES (0 .. 60; 0 is no thing done) go by: which it is;");
        RopeDance x = four();
        is("0", x.minutes(0), 0);
        is("things done by 0", x.count(9), 0);
        is("1", x.minutes(1), 1);
        is("60", x.minutes(60), 61);
        is("0", x.minutes(0), 61);
        is("things done", x.count(9), 2);
        is("undo of 60", x.undo(), true);
        is("the minute", x.minutes(0), 1);
        is("without a text", new RopeDance().minutes(60), 60);
        promise(13, "NONE, and nothing happens: no such n.");
        x = four();
        for (int n : new int[] {-1, 61, 62, 100, LEAST, GREATEST}) {
            is("minutes(" + n + ")", x.minutes(n), -1);
        }
        is("the minute", x.count(2), 0);
        is("paid", x.count(3), 0);
        is("things done", x.count(9), 0);
        is("tired", x.count(6), 0);
    }

    private static void undo() {
        promise(14, "The last thing done (call, move, let, minutes) is undone: true;");
        RopeDance x = four();
        x.call(0, 0);
        x.move(1, 0, 1);
        x.let(2);
        x.minutes(9);
        x.hold(0);
        x.tell(1, 0, true);
        x.feed(0, 0, 0, 0, 0);
        is("undo of minutes", x.undo(), true);
        is("the minute", x.count(2), 0);
        is("paid", x.count(3), 0);
        is("called", x.count(7), 1);
        is("undo of let", x.undo(), true);
        tangle(x, 2, 1, 0);
        is("undo of move", x.undo(), true);
        tangle(x, 1, -5, 1);
        is("undo of call", x.undo(), true);
        tangle(x, 0, 5, 1);
        is("tired", x.count(6), 0);
        is("called", x.count(7), 0);
        is("what is TOLD stays", x.count(10), 1);
        is("what is held stays", x.count(11), 1);
        is("the tape stays", x.count(8), 20);
        promise(14, "false: there is none (the last 40 can be).");
        is("undo of none", x.undo(), false);
        is("undo of none, without a text", new RopeDance().undo(), false);
        // what was refused, asked or no thing done is not undone
        x.call(9, 9);
        x.move(0, 0, 0);
        x.let(3);
        x.minutes(0);
        x.minutes(61);
        x.hold(1);
        x.tell(1, 0, true);
        x.plan(0, 0);
        x.then(0, 5, 0);
        is("undo of what is none", x.undo(), false);
        for (int most = 39; most <= 42; most++) {
            x = with("square a;figure f twist 1;");
            for (int i = 0; i < most; i++) {
                x.call(0, 0);
            }
            is("things done", x.count(9), Math.min(40, most));
            for (int i = 1; i <= Math.min(40, most); i++) {
                is("undo " + i + " of " + most, x.undo(), true);
                tangle(x, 0, most - i, 1);
            }
            is("undo of one more", x.undo(), false);
            is("things done", x.count(9), 0);
            tangle(x, 0, Math.max(0, most - 40), 1);
        }
        // 40 again behind some that were undone
        x = with("square a;figure f turn;");
        for (int i = 0; i < 60; i++) {
            x.call(0, 0);
        }
        for (int i = 0; i < 25; i++) {
            x.undo();
        }
        is("left", x.count(9), 15);
        for (int i = 0; i < 30; i++) {
            x.call(0, 0);
        }
        is("40 again", x.count(9), 40);
        is("called", x.square(0, 8), 65);
        for (int i = 0; i < 40; i++) {
            is("undo", x.undo(), true);
        }
        is("called", x.square(0, 8), 25);
        is("undo of one more", x.undo(), false);
    }

    private static void hold() {
        promise(38, "All that goes on (not what is TOLD, nor the tape) is held in a SLOT (0 .. 2): true; false: no such one.");
        RopeDance x = four();
        for (int slot : NONE_OF_THREE) {
            is("hold(" + slot + ")", x.hold(slot), false);
        }
        is("none is held", x.count(11), 0);
        for (int slot = 0; slot < 3; slot++) {
            is("hold(" + slot + ")", x.hold(slot), true);
            is("held", x.count(11), slot + 1);
            x.call(0, 0);
            x.minutes(1);
        }
        is("things done", x.count(9), 6);
        is("hold again", x.hold(1), true);
        is("held", x.count(11), 3);
        x.tell(1, 0, true);
        put(x, "squ");
        x.restore(0);
        is("TOLD", x.count(10), 1);
        is("bytes", x.count(8), 3);
        is("minute of SLOT 0", x.count(2), 0);
        x.restore(2);
        is("minute of SLOT 2", x.count(2), 2);
        x.restore(1);
        is("minute of SLOT 1, held again", x.count(2), 3);
        is("without a text", new RopeDance().hold(2), true);
    }

    /** P, Q, how tired and how often called of four SQUARES, the minute and what was paid. */
    private static int[] allOf(RopeDance x) {
        int[] all = new int[18];
        for (int square = 0; square < 4; square++) {
            all[4 * square] = x.square(square, 0);
            all[4 * square + 1] = x.square(square, 1);
            all[4 * square + 2] = x.square(square, 4);
            all[4 * square + 3] = x.square(square, 8);
        }
        all[16] = x.count(2);
        all[17] = x.count(3);
        return all;
    }

    private static void allIs(String what, RopeDance x, int[] due) {
        int[] all = allOf(x);
        for (int i = 0; i < due.length; i++) {
            is(what + ", number " + i, all[i], due[i]);
        }
    }

    private static void wholeEvenings() {
        promise(39, "It goes on from what a SLOT holds");
        RopeDance x = with("square a;square b;square c;square d;figure f twist 1;figure g turn;figure h;tires=3+which;pays=5+which;");
        int[][] held = new int[4][];
        for (int slot = 0; slot < 3; slot++) {
            for (int square = 0; square < 4; square++) {
                for (int i = 0; i < 2 + 3 * square + slot; i++) {
                    x.call(square, i % 2);
                }
            }
            x.minutes(11 + slot);
            held[slot] = allOf(x);
            x.hold(slot);
        }
        x.minutes(7);
        held[3] = allOf(x);
        for (int slot = 0; slot < 3; slot++) {
            is("restore", x.restore(slot), true);
            allIs("SLOT " + slot, x, held[slot]);
        }
        x.minutes(7);
        allIs("the evening again", x, held[3]);
        promise(14, "The last thing done (call, move, let, minutes) is undone: true;");
        x.undo();
        allIs("undone", x, held[2]);
        x.call(3, 2);
        x.undo();
        allIs("undone", x, held[2]);
        x.let(1);
        x.undo();
        allIs("undone", x, held[2]);
        x.move(2, 2, 0);
        x.undo();
        allIs("undone", x, held[2]);
    }

    private static void restore() {
        promise(39, "It goes on from what a SLOT holds (that stays there; nothing can be undone then): true;");
        RopeDance x = four();
        x.call(0, 0);
        x.call(0, 0);
        x.minutes(2);
        x.hold(2);
        int[] due = new int[8];
        for (int what = 0; what < 8; what++) {
            due[what] = x.count(what);
        }
        x.minutes(5);
        x.let(0);
        x.let(1);
        for (int times = 0; times < 2; times++) {
            is("restore", x.restore(2), true);
            for (int what = 0; what < 8; what++) {
                is("count(" + what + ")", x.count(what), due[what]);
            }
            is("things done", x.count(9), 0);
            is("undo", x.undo(), false);
            is("held", x.count(11), 1);
            x.minutes(1);
            is("undo", x.undo(), true);
            x.minutes(7);
        }
        promise(39, "false, and nothing happens: no such one, nothing is held.");
        int done = x.count(9);
        for (int slot : new int[] {-1, 0, 1, 3, 4, LEAST, GREATEST}) {
            is("restore(" + slot + ")", x.restore(slot), false);
        }
        is("things done", x.count(9), done);
        is("minute", x.count(2), 9);
        x = new RopeDance();
        is("without a text", x.restore(0), false);
        x.hold(0);
        x.minutes(5);
        is("without a text, held", x.restore(0), true);
        is("the minute", x.count(2), 0);
    }

    private static void count() {
        promise(40, "0 SQUARES, 1 FIGURES, 2 the minute, 3 what was paid so far, 4 CROSSINGS of all, added,"
            + " 5 SQUARES that are 0 / 1 (bits), 6 how tired all are, added, 7 how many FIGURES were called, added,"
            + " 8 bytes on the tape, 9 things that can be undone, 10 TOLD ones, 11 SLOTS that hold something,"
            + " 12 SQUARES of ENDS 0 (bits), 13 SQUARES of ENDS 2 (bits).");
        int[] due = {4, 3, 0, 0, 10, 8, 0, 0, 0, 0, 0, 0, 8, 4};
        RopeDance x = four();
        for (int what = 0; what < 14; what++) {
            is("count(" + what + ")", x.count(what), due[what]);
        }
        x.let(0);
        x.let(1);
        x.let(2);
        is("all are 0 / 1", x.count(5), 15);
        is("all are of ENDS 0", x.count(12), 15);
        is("none is of ENDS 2", x.count(13), 0);
        for (int square = 0; square < 4; square++) {
            x.move(square, 2, 0);
        }
        is("none is 0 / 1", x.count(5), 0);
        is("none is of ENDS 0", x.count(12), 0);
        is("all are of ENDS 2", x.count(13), 15);
        x.call(0, 1);
        x.call(3, 0);
        is("how tired all are", x.count(6), 2);
        is("called", x.count(7), 2);
        is("the first is 0 / 1", x.count(5), 1);
        is("all but the first are of ENDS 2", x.count(13), 14);
        is("bytes of none", new RopeDance().count(8), 0);
        promise(40, "NONE for others.");
        for (int what : new int[] {-1, 14, 15, 100, LEAST, GREATEST}) {
            is("count(" + what + ")", x.count(what), -1);
        }
    }
}
