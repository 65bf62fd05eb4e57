/** Tests by hand, promise by promise: ordinary inputs, the edges that the document names, wrong inputs. */
public final class Promises extends Checks {
    private Promises() {
    }

    public static void main(String[] args) {
        newObject();
        feeding();
        goingBack();
        reading();
        faultsOfSyntax();
        faultsOfRoom();
        faultsOfSense();
        readingAnew();
        placing();
        squares();
        laws();
        figures();
        tiring();
        after();
        calling();
        moving();
        letting();
        minutes();
        minutesThatSlip();
        undoing();
        least();
        ways();
        steps();
        plans();
        bringing();
        reaching();
        alike();
        closed();
        colours();
        joined();
        orders();
        rounds();
        powers();
        staying();
        minding();
        reversing();
        hands();
        thens();
        years();
        telling();
        forgetting();
        rows();
        listening();
        holding();
        restoring();
        counting();
        end("Promises");
    }

    private static void newObject() {
        about = "promise 1";
        RopeDance x = new RopeDance();
        is("NONE", RopeDance.NONE, -1);
        for (int what = 0; what <= 13; what++) {
            is("count(" + what + ") of a new object", x.count(what), 0);
        }
        is("place", x.place(), -1);
        is("square", x.square(0, 0), -1000);
        is("figure", x.figure(0, 0), -1000000000);
    }

    private static void feeding() {
        about = "promise 2";
        RopeDance x = new RopeDance();
        // "square a twist 2;" and three blanks
        is("feed", x.feed(0x73717561, 0x72652061, 0x20747769, 0x73742032, 0x3b202020), 20);
        is("count of bytes", x.count(8), 20);
        is("read", x.read(), 0);
        tangle(x, 0, 2, 1);
        is("bytes of a tape that was read", x.count(8), 0);
        for (int i = 1; i <= 100; i++) {
            is("feed " + i, x.feed(-1, -1, -1, -1, -1), 20 * i);
        }
        is("feed beyond 2000", x.feed(0, 0, 0, 0, 0), -1);
        is("nothing came", x.count(8), 2000);
        x.back(19);
        is("feed with room for 19", x.feed(0, 0, 0, 0, 0), -1);
        x.back(1);
        is("feed with room for 20", x.feed(0, 0, 0, 0, 0), 2000);
    }

    private static void goingBack() {
        about = "promise 3";
        RopeDance x = new RopeDance();
        is("back(0) of nothing", x.back(0), 0);
        is("back(1) of nothing", x.back(1), -1);
        x.feed(0, 0, 0, 0, 0);
        is("back(-1)", x.back(-1), -1);
        is("back(least)", x.back(Integer.MIN_VALUE), -1);
        is("back(21)", x.back(21), -1);
        is("nothing went", x.count(8), 20);
        is("back(0)", x.back(0), 20);
        is("back(7)", x.back(7), 13);
        is("back(14)", x.back(14), -1);
        is("back(13)", x.back(13), 0);
        put(x, "square a;square b;");
        x.back(9);
        is("read of what is left", x.read(), 0);
        is("squares of what is left", x.count(0), 1);
    }

    private static void reading() {
        about = "promise 4 (read)";
        noFault("");
        noFault(" \n\t\r");
        noFault("square a;");
        noFault("square\ta\n;\r");
        noFault("figure\nf\ttwist\r1turn back 9;");
        noFault("seed0;seed 9999;seed 0001;");
        noFault("tires=1;rests=((over+under)*cross-ends/tired)-minute;pays=which*moves;slips=called;");
        noFault("pays = if over < under then 1 else if cross < ends then 2 else 3;");
        noFault("square z; square zzzzzzzz; figure azz; figure zza;");
        noFault("square abcdefgh; square squares; square tir; figure t; figure e;");
        RopeDance x = with("square a twist 3 turn twist 0002; figure f back 1 turn; seed 7;");
        tangle(x, 0, 5, 3);
        is("squares", x.count(0), 1);
        is("figures", x.count(1), 1);
    }

    private static void faultsOfSyntax() {
        about = "promise 4 (SYNTAX)";
        fault("a", 1, 0);
        fault("  7", 1, 2);
        fault(";", 1, 0);
        fault("square", 1, 6);
        fault("square  ", 1, 8);
        fault("square a", 1, 8);
        fault("square a ", 1, 9);
        fault("square ;", 1, 7);
        fault("square 1;", 1, 7);
        fault("square twist;", 1, 7);
        fault("square called;", 1, 7);
        fault("square abcdefghi;", 1, 7);
        fault("square a b;", 1, 9);
        fault("square a twist;", 1, 14);
        fault("square a twist b;", 1, 15);
        fault("square a turn 1;", 1, 14);
        fault("square a twist 12345;", 1, 15);
        fault("square a; Square b;", 1, 10);
        fault("square a;\u00e9", 1, 9);
        fault("square a;\u0000", 1, 9);
        fault("square a;\u000b", 1, 9);
        fault("square a_b;", 1, 8);
        fault("squarea;", 1, 0);
        fault("seed;", 1, 4);
        fault("seed -1;", 1, 5);
        fault("seed 1", 1, 6);
        fault("seed 00001;", 1, 5);
        fault("tires 1;", 1, 6);
        fault("tires = ;", 1, 8);
        fault("tires = 1", 1, 9);
        fault("tires = 1 1;", 1, 10);
        fault("tires = 1 + ;", 1, 12);
        fault("tires = -1;", 1, 8);
        fault("tires = (1;", 1, 10);
        fault("tires = 1);", 1, 9);
        fault("tires = ();", 1, 9);
        fault("tires = 1 < 2;", 1, 10);
        fault("tires = if 1 then 2 else 3;", 1, 13);
        fault("tires = if 1 < 2 < 3 then 2 else 3;", 1, 17);
        fault("tires = if (1 < 2) then 2 else 3;", 1, 14);
        fault("tires = if 1 < 2 else 3;", 1, 17);
        fault("tires = if 1 < 2 then 3;", 1, 23);
        fault("tires = 1 + if 1 < 2 then 3 else 4;", 1, 12);
        fault("tires = if 1 < 2 then if 1 < 2 then 3 else 4 else 5;", 1, 22);
        fault("tires = seed;", 1, 8);
        fault("tires = a;", 1, 8);
        // what is wrong in another way counts only if no text goes wrong so
        fault("square a; square a; square b twist 0; square c twist 99 ?", 1, 56);
    }

    private static void faultsOfRoom() {
        about = "promise 4 (ROOM)";
        String squares = "square a;square b;square c;square d;";
        noFault(squares);
        fault(squares + "square e;", 2, 36);
        fault(squares + " square ?", 2, 37);
        String figures = "figure a;figure b;figure c;figure d;figure e;";
        noFault(figures);
        fault(figures + "figure f;", 2, 45);
        noFault("square a" + times(8, " turn") + ";");
        fault("square a" + times(9, " turn") + ";", 2, 49);
        noFault("figure a" + times(8, " twist 9") + ";");
        fault("figure a" + times(8, " twist 9") + " back;", 2, 73);
        noFault("figure a" + times(8, " turn") + ";square b" + times(8, " turn") + ";");
        String aLaw = "tires = " + times(4, "if 1 < 2 then 3 else ");
        noFault(aLaw + "4;" + aLaw.replace("tires", "rests") + "4;");
        fault(aLaw + "if 1 < 2 then 3 else 4;", 2, aLaw.length());
        noFault("pays = " + times(6, "(") + "1" + times(6, ")") + ";");
        fault("pays = " + times(7, "(") + "1" + times(7, ")") + ";", 2, 13);
        noFault("pays = " + times(9, "(1) + ") + "((1));");
        // the brackets of 2 come to six within one another, those of the last 1 to seven
        fault("pays = 1 + ((1) + (((((2))))) * ((((((1)))))));", 2, 37);
        fault("pays = 1 + ((1) + (((((2))))) * (((((1)))));", 1, 43);
        fault("pays = 1 + (1 + (((((2 * (1)))))));", 2, 25);
        // 400 TOKENS: pays = 1 {+ 1} ; has 4 and 2 each
        noFault("pays=1" + times(198, "+1") + ";");
        fault("pays=1" + times(198, "+1") + ";seed 1;", 2, 6 + 396 + 1);
        fault("pays=1" + times(199, "+1") + ";", 2, 6 + 397);
        fault("pays=1" + times(198, "+1") + ";1", 1, 6 + 396 + 1);
        fault("pays=1" + times(198, "+1") + "+ ", 1, 6 + 396 + 2);
        fault("pays=1" + times(198, "+1") + ";?", 1, 6 + 396 + 1);
        fault("pays=1" + times(198, "+1") + " ", 1, 6 + 396 + 1);
        fault("pays=1" + times(197, "+1") + ";" + "seed 1;", 2, 6 + 394 + 1 + 6);
        fault("square a twist 0;square a;pays=" + times(7, "("), 2, 37);
    }

    private static void faultsOfSense() {
        about = "promise 4 (TWICE, WRONG, KNOT)";
        fault("square a;square a;", 3, 16);
        fault("square a;figure a;", 3, 16);
        fault("figure a;square b;figure a;", 3, 25);
        fault("figure a;figure a;figure a;", 3, 16);
        noFault("square a;figure aa;figure ab;square b;");
        fault("square a twist 0;", 5, 15);
        fault("square a twist 10;", 5, 15);
        fault("square a back 0000;", 5, 14);
        fault("figure a turn back 9999;", 5, 19);
        noFault("figure a twist 0009;");
        fault("square a twist 100;", 6, 7);
        fault("square a back 100;", 6, 7);
        fault("square a twist 99;", 5, 15);
        fault("square a twist 9999 back 9999;", 6, 7);
        noFault("figure a twist 9 turn twist 9 turn twist 9 turn twist 9;");
        fault("square a twist 9 turn twist 9 turn twist 9;", 6, 7);
        noFault("square a turn twist 9 twist 9 twist 9;");
        fault("figure f;square a;square a twist 100;", 3, 25);
        fault("square b twist 0;square a twist 100;square b;", 5, 15);
        fault("square b twist 100;square b twist 0;", 6, 7);
        fault("figure f twist 0;square b twist 100;", 5, 15);
    }

    private static void readingAnew() {
        about = "promise 4 (what a text changes)";
        RopeDance x = with("square a twist 3; figure f twist 1; tires = 2; seed 5;");
        x.call(0, 0);
        x.minutes(2);
        x.hold(1);
        x.tell(1, 0, true);
        put(x, "square b; square b;");
        is("a text with a FAULT", x.read(), 3);
        is("the tape", x.count(8), 0);
        is("squares stay", x.count(0), 1);
        is("the minute stays", x.count(2), 2);
        is("things done stay", x.count(9), 2);
        is("what is told stays", x.count(10), 1);
        is("slots stay", x.count(11), 1);
        is("laws stay", x.tires(0, 0), 2);
        tangle(x, 0, 6, 1);
        is("undo", x.undo(), true);
        put(x, "square a twist 3; figure f twist 1;");
        is("a text without", x.read(), 0);
        tangle(x, 0, 3, 1);
        for (int what = 2; what <= 11; what++) {
            int due = what == 4 ? 3 : 0;
            is("count(" + what + ") after a text", x.count(what), due);
        }
        is("laws not told", x.tires(0, 0), 1);
        is("undo", x.undo(), false);
        is("restore", x.restore(1), false);
        is("called", x.square(0, 8), 0);
        x.read();
        is("an empty tape: squares", x.count(0), 0);
        is("an empty tape: figures", x.count(1), 0);
        put(x, "seed 1; pays = 5; square a; pays = 6; seed 2;");
        x.read();
        is("the last LAW of a sort", x.square(0, 6), 6);
        for (int i = 1; i <= 4; i++) {
            put(x, "square a twist " + i + "; figure f back 1; figure g turn; slips = " + (i % 2) * 9 + ";");
            x.read();
            tangle(x, 0, i, 1);
            is("a FIGURE of a text anew", x.figure(0, 4), 1);
            is("a TABLE of a text anew", x.figure(0, 1), -1);
            is("a LAW of a text anew", x.square(0, 7), (i % 2) * 9);
            planIs(x, 0, new int[i]);
            put(x, "square a twist " + i + "; figure f back 1 back 1;");
            x.read();
            is("a plan of a text anew", x.plan(0, -1), i % 2 == 0 ? i / 2 : -2);
            is("a LAW not told anew", x.square(0, 7), 0);
            is("a LAW not told anew", x.square(0, 5), 1);
            is("a LAW not told anew", x.square(0, 6), i);
            is("a LAW not told anew", x.tires(0, 0), 2);
        }
        x.tell(1, 0, true);
        x.hold(0);
        put(x, "square a;");
        x.read();
        is("SLOT 0 anew", x.restore(0), false);
    }

    private static void placing() {
        about = "promise 5";
        RopeDance x = new RopeDance();
        is("ahead of any read", x.place(), -1);
        put(x, "square a");
        x.read();
        is("the end", x.place(), 8);
        is("again", x.place(), 8);
        x.feed(0, 0, 0, 0, 0);
        is("of the latest read", x.place(), 8);
        x.read();
        is("of another one", x.place(), 0);
        x.read();
        is("without a FAULT", x.place(), -1);
    }

    private static void squares() {
        about = "promise 6";
        RopeDance x = with("square a twist 3 turn twist 2; square b back 1; square c turn; square d;"
            + "figure f twist 1; rests = 4; slips = 30;");
        int[][] due = {{5, 3, 4, 1, 0, 4, 4, 30, 0}, {-1, 1, 1, 1, 0, 4, 1, 30, 0}, {1, 0, 0, 2, 0, 4, 0, 30, 0},
            {0, 1, 0, 0, 0, 4, 0, 30, 0}};
        for (int square = 0; square < 4; square++) {
            for (int what = 0; what < 9; what++) {
                is("square(" + square + ", " + what + ")", x.square(square, what), due[square][what]);
            }
        }
        x.call(0, 0);
        is("tired", x.square(0, 4), 1);
        is("called", x.square(0, 8), 1);
        is("what 9", x.square(0, 9), -1000);
        is("what -1", x.square(0, -1), -1000);
        is("square 4", x.square(4, 0), -1000);
        is("square -1", x.square(-1, 0), -1000);
        x = with("square a twist 2 turn twist 9 twist 1 turn; square b back 3 turn back 2;");
        tangle(x, 0, -2, 19);
        is("crossings of -2 / 19", x.square(0, 2), 11);
        is("ends of -2 / 19", x.square(0, 3), 0);
        tangle(x, 1, -5, 3);
        is("crossings of -5 / 3", x.square(1, 2), 4);
    }

    private static int pays(String law) {
        return with("square a twist 3 turn twist 2; pays = " + law + ";").square(0, 6);
    }

    private static void laws() {
        about = "promise 6 (LAWS)";
        is("left to right", pays("9 - 4 - 3"), 2);
        is("division on end", pays("80 / 4 / 2"), 10);
        is("division ahead of times", pays("7 / 2 * 2"), 6);
        is("points ahead of strokes", pays("2 + 3 * 4 - 6 / 3"), 12);
        is("brackets", pays("(2 + 3) * (4 - (1 + 1))"), 10);
        is("deep", pays("2*(3+2*(1+2*(1+1*(1+1*(1+1*(1+1))))))"), 50);
        is("rounded towards 0", pays("10 + (0 - 7) / 2"), 7);
        is("above 99", pays("100"), 99);
        is("below 0", pays("0 - 1"), 0);
        // 9999 * 9999 * 9999 is -1027349969 in 32 bits, and that by 9999 is -102745
        is("wraps", pays("9999 * 9999 * 9999 / 9999 + 9999 + 9999 + 9999 + 9999 + 9999 + 9999 + 9999 + 9999 + 9999 + 9999 + 2797"), 42);
        is("less", pays("if 1 < 2 then 3 else 4"), 3);
        is("not less", pays("if 2 < 2 then 3 else 4"), 4);
        is("the first that holds", pays("if 2 < 1 then 3 else if 1 < 2 then 4 else if 1 < 3 then 5 else 6"), 4);
        is("none holds", pays("if 2 < 1 then 3 else if 3 < 2 then 4 else 6 + 1"), 7);
        is("by 0", pays("5 / (over - 5)"), 0);
        is("by 0, and more", pays("7 + 5 / 0"), 0);
        is("by 0 in what is not looked at", pays("if 1 < 2 then 3 else 1 / 0"), 3);
        is("by 0 in a then that is not taken", pays("if 2 < 1 then 1 / 0 else 8"), 8);
        is("by 0 in what is asked", pays("if 1 / 0 < 1 then 3 else 4"), 0);
        is("by 0 in what is asked, on the right", pays("if 1 < 1 / 0 then 3 else 4"), 0);
        is("by 0 in what is asked too late", pays("if 1 < 2 then 3 else if 1 < 1 / 0 then 5 else 4"), 3);
        is("by 0 in what is asked ahead", pays("if 2 < 1 then 3 else if 1 < 1 / 0 then 5 else 4"), 0);
        is("over", pays("over"), 5);
        is("under", pays("under"), 3);
        is("cross", pays("cross + 10"), 14);
        is("ends", pays("ends + 10"), 11);
        is("moves of a SQUARE", pays("moves + 10"), 10);
        is("a long one", pays("1" + times(96, " + 3 - 3") + " + 7"), 8);
        RopeDance still = with("square a; rests = moves + 3; slips = moves; pays = moves + 1; tires = 9; figure f twist 9 twist 9"
            + " twist 9 twist 9 twist 9 twist 9 twist 9;");
        is("RESTS with no moves", still.square(0, 5), 3);
        is("SLIPS with no moves", still.square(0, 7), 0);
        still.minutes(2);
        is("RESTS with no moves, of a MINUTE", still.square(0, 4), 9 - 3);
        is("PAYS with no moves, of a MINUTE", still.count(3), 2);
        RopeDance x = with("square a; square b back 7; figure f turn turn; tires = 3; pays = which + 10; rests = tired;"
            + "slips = called * 10 + minute; figure g twist 9 twist 9 twist 9 twist 9 twist 9 twist 9 twist 9 twist 9;");
        is("which of the first", x.square(0, 6), 10);
        is("which of the other", x.square(1, 6), 11);
        x.call(1, 0);
        x.call(1, 0);
        is("tired", x.square(1, 5), 6);
        is("called", x.square(1, 7), 20);
        is("called of the other", x.square(0, 7), 0);
        x = with("slips = 101; rests = 100; square a back 7; pays = over; tires = over;figure f twist 9;");
        is("slips held to 100", x.square(0, 7), 100);
        is("rests held to 99", x.square(0, 5), 99);
        is("over is without sign", x.square(0, 6), 7);
        is("tires by how it is ahead", x.tires(0, 0), 7);
        x.minutes(7);
        x = with("square a; slips = minute; rests = 0 - 1; pays = minute;");
        x.minutes(7);
        is("minute", x.square(0, 7), 7);
        is("rests held to 0", x.square(0, 5), 0);
        is("paid by the minutes 0 .. 6", x.count(3), 21);
    }

    private static void figures() {
        about = "promise 7";
        RopeDance x = with("figure a twist 9 turn twist 9; figure b back 1 turn back 1; figure c; figure d turn;"
            + "figure e turn twist 3 turn turn back 2;");
        int[][] due = {{9, 80, 1, 9, 3}, {1, 0, -1, 1, 3}, {1, 0, 0, 1, 0}, {0, 1, -1, 0, 1}, {1, -1, 1, 0, 5}};
        for (int figure = 0; figure < 5; figure++) {
            for (int what = 0; what < 5; what++) {
                is("figure(" + figure + ", " + what + ")", x.figure(figure, what), due[figure][what]);
            }
        }
        is("what 5", x.figure(0, 5), -1000000000);
        is("what -1", x.figure(0, -1), -1000000000);
        is("figure 5", x.figure(5, 0), -1000000000);
        is("figure -1", x.figure(-1, 4), -1000000000);
        x = with("figure a twist 9 twist 9 turn twist 9 turn twist 9 turn twist 9; figure b turn turn;");
        is("a great table", x.figure(0, 1), 12718);
        is("signs", x.figure(1, 0), 1);
        is("signs", x.figure(1, 3), 1);
        is("zeros", x.figure(1, 1), 0);
        x = with("figure a turn turn turn; figure b turn twist 1 turn twist 1 turn;");
        int[] threeTurns = {0, 1, -1, 0};
        int[] turnsAndTwists = {1, -1, 0, 1};
        for (int what = 0; what < 4; what++) {
            is("three turns", x.figure(0, what), threeTurns[what]);
            is("turns and twists", x.figure(1, what), turnsAndTwists[what]);
        }
    }

    private static void tiring() {
        about = "promise 8";
        RopeDance x = with("square a twist 5; square b turn; figure f twist 1 turn; figure g; tires = moves * 10 + cross;");
        is("tires(0, 0)", x.tires(0, 0), 25);
        is("tires(0, 1)", x.tires(0, 1), 5);
        is("tires(1, 0)", x.tires(1, 0), 20);
        is("no such square", x.tires(2, 0), -1);
        is("no such square", x.tires(-1, 0), -1);
        is("no such figure", x.tires(0, 2), -1);
        is("no such figure", x.tires(0, -1), -1);
        x = with("square a twist 9 twist 9 twist 9 twist 9; figure f twist 9 twist 9 twist 9 twist 9 twist 9 twist 9 twist 9 twist 9;");
        is("of a FIGURE that can not be made", x.tires(0, 0), 8);
        is("of the SQUARE", x.after(0, 0, 0), -1000);
        x = with("square a; figure f; tires = 5000;");
        is("held to 99", x.tires(0, 0), 99);
    }

    private static void after() {
        about = "promise 9";
        RopeDance x = with("square a twist 3 turn twist 2; square b turn; figure f turn twist 2; figure g twist 9 turn twist 9;"
            + "figure h twist 9 twist 9 twist 9 twist 9 back 9 back 9 back 9 back 9;");
        is("P", x.after(0, 0, 0), 7);
        is("Q", x.after(0, 0, 1), 5);
        is("P of 1 / 0", x.after(1, 0, 0), 2);
        is("Q of 1 / 0", x.after(1, 0, 1), 1);
        is("can not be made", x.after(0, 1, 0), -1000);
        is("can not be made on the way", x.after(0, 2, 0), -1000);
        is("can be made of 1 / 0", x.after(1, 2, 1), 0);
        is("what 2", x.after(0, 0, 2), -1000);
        is("what -1", x.after(0, 0, -1), -1000);
        is("no such square", x.after(2, 0, 0), -1000);
        is("no such figure", x.after(0, 3, 0), -1000);
        tangle(x, 0, 5, 3);
        is("nothing is done", x.count(9), 0);
    }

    private static void calling() {
        about = "promise 10";
        RopeDance x = with("square a twist 3 turn twist 2; square b; figure f turn twist 2; figure g twist 9 turn twist 9;"
            + "tires = 90 + over;");
        is("call", x.call(0, 0), 1 + 2 + 2);
        tangle(x, 0, 7, 5);
        is("tired", x.square(0, 4), 95);
        is("called", x.square(0, 8), 1);
        is("can not be made", x.call(0, 1), -1);
        is("no such square", x.call(2, 0), -1);
        is("no such figure", x.call(0, 2), -1);
        is("no such figure", x.call(0, -1), -1);
        is("nothing happens", x.count(9), 1);
        is("the minute", x.count(2), 0);
        for (int i = 0; i < 11; i++) {
            x.call(1, 0);
        }
        is("tired at most", x.square(1, 4), 999);
        is("called", x.square(1, 8), 11);
        is("all called", x.count(7), 12);
    }

    private static void moving() {
        about = "promise 11";
        RopeDance x = with("square a; square b turn;");
        is("twist", x.move(0, 0, 9), true);
        tangle(x, 0, 9, 1);
        is("back", x.move(0, 1, 2), true);
        tangle(x, 0, 7, 1);
        is("turn", x.move(0, 2, -5), true);
        tangle(x, 0, -1, 7);
        is("turn of below 0", x.move(0, 2, 1000), true);
        tangle(x, 0, 7, 1);
        is("twist 0", x.move(0, 0, 0), false);
        is("twist 10", x.move(0, 0, 10), false);
        is("back 0", x.move(0, 1, 0), false);
        is("back 10", x.move(0, 1, 10), false);
        is("back -1", x.move(0, 1, -1), false);
        is("what 3", x.move(0, 3, 1), false);
        is("what -1", x.move(0, -1, 1), false);
        is("no such square", x.move(2, 0, 1), false);
        is("no such square", x.move(-1, 2, 1), false);
        is("things done", x.count(9), 4);
        is("twist of 1 / 0", x.move(1, 0, 3), true);
        tangle(x, 1, 1, 0);
        is("turn of 1 / 0", x.move(1, 2, 0), true);
        tangle(x, 1, 0, 1);
        is("turn of 0 / 1", x.move(1, 2, 0), true);
        tangle(x, 1, 1, 0);
        is("nobody tires", x.count(6), 0);
        is("nothing is called", x.count(7), 0);
        for (int i = 0; i < 10; i++) {
            x.move(0, 0, 9);
        }
        tangle(x, 0, 97, 1);
        is("beyond 99", x.move(0, 0, 3), false);
        is("to 99", x.move(0, 0, 2), true);
        x.move(0, 2, 0);
        tangle(x, 0, -1, 99);
        is("beyond -99", x.move(0, 1, 1), false);
        is("to 98 / 99", x.move(0, 0, 1), true);
        tangle(x, 0, 98, 99);
    }

    private static void letting() {
        about = "promise 12";
        RopeDance x = with("square a twist 3; square b turn; square c; figure f twist 1;");
        x.call(0, 0);
        is("let", x.let(0), true);
        tangle(x, 0, 0, 1);
        is("tired stays", x.square(0, 4), 1);
        is("called stays", x.square(0, 8), 1);
        is("let of 1 / 0", x.let(1), true);
        tangle(x, 1, 0, 1);
        is("let of 0 / 1", x.let(2), false);
        is("let again", x.let(0), false);
        is("no such square", x.let(3), false);
        is("no such square", x.let(-1), false);
        is("things done", x.count(9), 3);
    }

    private static void minutes() {
        about = "promise 13";
        RopeDance x = with("square a; square b twist 2; figure r twist 1; figure s turn; figure t; seed 7;"
            + "tires = 5; pays = 1 + which; rests = 2;");
        is("minutes(-1)", x.minutes(-1), -1);
        is("minutes(61)", x.minutes(61), -1);
        is("minutes(0)", x.minutes(0), 0);
        is("nothing is done", x.count(9), 0);
        int[] ofA = {Model.lot(3, 7, 0), Model.lot(3, 7, 8), Model.lot(3, 7, 16), Model.lot(3, 7, 24)};
        for (int i = 0; i < 4; i++) {
            int p = x.square(0, 0);
            int q = x.square(0, 1);
            int r = x.after(0, ofA[i], 0);
            int s = x.after(0, ofA[i], 1);
            is("minutes(1) from " + p + " / " + q, x.minutes(1), i + 1);
            tangle(x, 0, r, s);
        }
        is("paid", x.count(3), 12);
        is("tired", x.count(6), 40);
        is("called", x.count(7), 8);
        is("minutes(60)", x.minutes(60), 64);
        is("things done", x.count(9), 5);
        x = with("square a; figure f twist 9 twist 9 twist 9 twist 9 twist 9 twist 9; tires = 9; rests = 4;");
        x.minutes(1);
        tangle(x, 0, 54, 1);
        is("tired once called", x.square(0, 4), 9);
        x.minutes(1);
        tangle(x, 0, 54, 1);
        is("rests if it can not be made", x.square(0, 4), 5);
        x.minutes(2);
        is("tired at least", x.square(0, 4), 0);
        is("called once", x.square(0, 8), 1);
        is("paid by how it is", x.count(3), 54 * 3);
        x = with("square a twist 5;");
        x.minutes(3);
        is("no FIGURES", x.count(3), 15);
        is("no FIGURES", x.count(7), 0);
        x = with("square a twist 1; figure f twist 1; pays = if minute < 1 then over else tired * 10 + called;"
            + "tires = if minute < 1 then 3 else over + minute;");
        x.minutes(1);
        is("paid ahead of the FIGURE", x.count(3), 1);
        x.minutes(1);
        is("paid by how it is then", x.count(3), 32);
        is("tires by the minute", x.square(0, 4), 6);
        lots();
    }

    /** LOTS worked out apart from the class: 3 FIGURES of different ends, the SQUARE let go each time. */
    private static void lots() {
        int[] seeds = {0, 1, 2, 7, 9999};
        int[][] due = LOTS;
        for (int i = 0; i < seeds.length; i++) {
            RopeDance x = with("square a; square b; figure f twist 1; figure g twist 2; figure h twist 3; seed " + seeds[i] + ";");
            for (int minute = 0; minute < 8; minute++) {
                x.minutes(1);
                is("LOT of SEED " + seeds[i] + " in minute " + minute, x.square(0, 0) - 1, due[2 * i][minute]);
                is("LOT of the other", x.square(1, 0) - 1, due[2 * i + 1][minute]);
                x.let(0);
                x.let(1);
            }
        }
    }

    private static final int[][] LOTS = {
        {2, 0, 2, 0, 1, 0, 0, 1},
        {2, 0, 2, 1, 0, 1, 2, 1},
        {0, 0, 2, 1, 0, 2, 1, 1},
        {2, 2, 1, 0, 2, 0, 2, 1},
        {0, 0, 2, 1, 0, 0, 1, 2},
        {2, 0, 0, 1, 0, 1, 0, 2},
        {1, 1, 0, 2, 2, 2, 1, 2},
        {0, 2, 0, 2, 1, 1, 1, 1},
        {0, 0, 0, 1, 0, 2, 0, 2},
        {1, 2, 1, 1, 1, 1, 0, 2}
    };

    private static void minutesThatSlip() {
        about = "promise 13 (SLIPS)";
        RopeDance x = with("square a; figure f twist 1 twist 2 twist 3; slips = 100; tires = moves * 10;");
        x.minutes(1);
        tangle(x, 0, 3, 1);
        is("TIRES as with it", x.square(0, 4), 30);
        is("called", x.square(0, 8), 1);
        x = with("square a; figure f; slips = 100;");
        x.minutes(2);
        tangle(x, 0, 0, 1);
        is("a FIGURE of no MOVES is called", x.square(0, 8), 2);
        x = with("square a; figure f twist 9 twist 9 twist 9 twist 9 twist 9 twist 9 twist 9 turn; slips = 100;");
        x.minutes(1);
        tangle(x, 0, 63, 1);
        x.minutes(1);
        tangle(x, 0, 63, 1);
        is("it rests if it can not be made so", x.square(0, 4), 7);
        // a LOT of 100 that is less than SLIPS, by SEED 0
        int[] due = SLIPS;
        for (int slips = 0; slips <= 100; slips += 20) {
            x = with("square a; figure f twist 1 twist 2; slips = " + slips + ";");
            for (int minute = 0; minute < 8; minute++) {
                x.minutes(1);
                is("SLIPS of " + slips + " in minute " + minute, x.square(0, 0), due[minute] < slips ? 1 : 3);
                x.let(0);
            }
        }
        // just at a LOT
        x = with("square a; figure f twist 1 twist 2; slips = " + due[0] + ";");
        x.minutes(1);
        tangle(x, 0, 3, 1);
        x = with("square a; figure f twist 1 twist 2; slips = " + (due[0] + 1) + ";");
        x.minutes(1);
        tangle(x, 0, 1, 1);
    }

    private static final int[] SLIPS = {53, 0, 38, 57, 7, 34, 12, 47};

    private static void undoing() {
        about = "promise 14";
        RopeDance x = with("square a twist 3; square b turn; figure f twist 1; tires = 4;");
        is("nothing done", x.undo(), false);
        x.call(0, 0);
        x.move(0, 2, 0);
        x.let(1);
        x.minutes(5);
        is("things done", x.count(9), 4);
        is("undo of minutes", x.undo(), true);
        is("minute", x.count(2), 0);
        is("paid", x.count(3), 0);
        is("called", x.count(7), 1);
        is("undo of let", x.undo(), true);
        tangle(x, 1, 1, 0);
        is("undo of move", x.undo(), true);
        tangle(x, 0, 4, 1);
        is("undo of call", x.undo(), true);
        tangle(x, 0, 3, 1);
        is("tired", x.count(6), 0);
        is("called", x.count(7), 0);
        is("nothing left", x.undo(), false);
        for (int i = 0; i < 45; i++) {
            x.move(0, 2, 0);
            x.call(1, 0);
        }
        is("the last 40", x.count(9), 40);
        x.let(0);
        is("still 40", x.count(9), 40);
        for (int i = 0; i < 40; i++) {
            is("undo " + i, x.undo(), true);
        }
        is("no more", x.undo(), false);
        is("called 45 times less 20, but for the let", x.square(1, 8), 45 - 19 - 1 + 0);
        x.tell(1, 1, true);
        x.move(0, 0, 1);
        x.undo();
        is("what is told stays", x.count(10), 1);
    }

    private static void least() {
        about = "promise 15";
        RopeDance x = with("square a twist 3 turn twist 2; square b back 1; square c turn; square d;");
        is("5 / 3", x.least(0), 6);
        is("-1 / 1", x.least(1), 1);
        is("1 / 0", x.least(2), 1);
        is("0 / 1", x.least(3), 0);
        is("no such", x.least(4), -1);
        is("no such", x.least(-1), -1);
        is("nothing happens", x.count(9), 0);
        x = with("square a twist 9 turn twist 9; square b turn back 9; square c twist 9 turn; square d turn twist 9 turn twist 1;");
        is("80 / 9", x.least(0), 19);
        is("1 / 0", x.least(1), 1);
        is("-1 / 9", x.least(2), 10);
        is("1 / 1", x.least(3), 1);
    }

    private static void ways() {
        about = "promise 16";
        RopeDance x = with("square a twist 3 turn twist 2; square b back 1; square c turn; square d;");
        is("5 / 3", x.ways(0), 3);
        is("-1 / 1", x.ways(1), 1);
        is("1 / 0", x.ways(2), 1);
        is("0 / 1", x.ways(3), 1);
        is("no such", x.ways(4), -1);
        is("no such", x.ways(-1), -1);
        x = with("square a twist 9 turn twist 9; square b twist 2 turn; square c back 2 turn;");
        is("80 / 9", x.ways(0), 9);
        is("-1 / 2", x.ways(1), 2);
        is("1 / 2", x.ways(2), 2);
    }

    private static void steps() {
        about = "promise 17";
        RopeDance x = with("square a twist 3 turn twist 2; square b back 1; square c turn; square d;");
        stepsAre(x, 0, -1, 100, 1, 100, -2);
        stepsAre(x, 1, 1);
        stepsAre(x, 2, 100);
        stepsAre(x, 3);
        is("no such", x.step(4, 0), -1000);
        is("no such", x.step(-1, 0), -1000);
        x = with("square a back 3 turn; square b twist 2 turn twist 3; square c twist 2 turn; square d twist 9 turn twist 9;");
        tangle(x, 0, 1, 3);
        stepsAre(x, 0, 100, 3);
        // 5 / 2: 1 / 2 by 2 backs and -1 / 2 by 3; then 2 twists, or 2 backs
        stepsAre(x, 1, -2, 100, 2);
        // -1 / 2: by a twist and 2 twists 4, at once and by 2 backs 3
        stepsAre(x, 2, 100, -2);
        // 80 / 9: by 9 backs 9 + 1 + 9, by 8 of them 8 + 1 + 1 + 1 + 8, which is alike
        stepsAre(x, 3, -8, 100, 1, 100, -8);
    }

    private static void plans() {
        about = "promise 18";
        RopeDance x = with("square a twist 3 turn twist 2; square b back 1; square c turn; square d;"
            + "figure s twist 1; figure h turn; figure r twist 1 turn twist 1; figure u back 1 turn back 1;");
        planIs(x, 0, 1, 2, 0, 2, 0);
        planIs(x, 1, 0);
        planIs(x, 2, 1);
        planIs(x, 3);
        is("i below NONE", x.plan(0, -2), -1);
        is("no such square", x.plan(4, -1), -1);
        is("no such square", x.plan(-1, 0), -1);
        is("nothing happens", x.count(9), 0);
        x.move(3, 2, 0);
        planIs(x, 3, 1);
        x.undo();
        planIs(x, 3);
        x = with("square a twist 2; square b; figure f twist 1;");
        is("can not be", x.plan(0, -1), -2);
        is("can not be, i 0", x.plan(0, 0), -2);
        is("can not be, i 7", x.plan(0, 7), -2);
        planIs(x, 1);
        x = with("square a twist 2; square b;");
        is("no FIGURES", x.plan(0, -1), -2);
        planIs(x, 1);
        x = with("square a twist 4; figure f back 1; figure g back 2 twist 0001; figure h back 3; figure i back 1;");
        planIs(x, 0, 0, 2);
        x = with("square a back 4; figure f twist 9 twist 9 twist 9 twist 9 twist 9 twist 9 twist 9 twist 9; figure g twist 1;"
            + " figure h twist 4 turn turn; figure i twist 4;");
        planIs(x, 0, 2);
        x = with("square a turn back 1; figure f twist 1;");
        is("1 / 0 stays", x.plan(0, 3), -2);
    }

    private static void bringing() {
        about = "promise 19";
        RopeDance x = with("square a twist 3 turn twist 2; square b back 1; square c turn; square d turn;"
            + "figure s twist 1; figure h turn; figure r twist 1 turn twist 1; figure u back 1 turn back 1;");
        is("how many", x.bring(1, 2, -1), 1);
        is("the first", x.bring(1, 2, 0), 2);
        is("behind the last", x.bring(1, 2, 1), -1);
        is("the other way", x.bring(2, 1, 0), 3);
        is("one and the same", x.bring(0, 0, -1), -1);
        is("one and the same, i 0", x.bring(0, 0, 0), -1);
        is("two that are alike", x.bring(2, 3, -1), 0);
        is("two that are alike, i 0", x.bring(2, 3, 0), -1);
        is("i below NONE", x.bring(1, 2, -2), -1);
        is("no such", x.bring(4, 0, -1), -1);
        is("no such", x.bring(0, 4, -1), -1);
        is("no such", x.bring(0, -1, -1), -1);
        x = with("square a twist 2; square b; figure f twist 1;");
        is("can be", x.bring(1, 0, -1), 2);
        is("can not be", x.bring(0, 1, -1), -2);
        is("can not be, i 5", x.bring(0, 1, 5), -2);
        x.move(1, 0, 3);
        is("as it is now", x.bring(0, 1, -1), 1);
        is("as it is now, back", x.bring(1, 0, -1), -2);
    }

    private static void reaching() {
        about = "promise 20";
        RopeDance x = with("square a; square b turn; figure f turn twist 1;");
        is("0 / 1, 1 / 0, 1 / 1", x.reach(0), 3);
        is("no such", x.reach(2), -1);
        is("no such", x.reach(-1), -1);
        x = with("square a; square b turn; figure f twist 1; figure g back 1; figure h turn;");
        is("all there are", x.reach(0), 12016);
        is("all there are, from 1 / 0", x.reach(1), 12016);
        x = with("square a; square b turn; square c twist 9; figure f twist 9;");
        is("0, 9 .. 99", x.reach(0), 12);
        is("1 / 0 alone", x.reach(1), 1);
        is("9 .. 99", x.reach(2), 11);
        x = with("square a;");
        is("no FIGURES", x.reach(0), 1);
    }

    private static void alike() {
        about = "promise 21";
        RopeDance x = with("square a twist 3 turn twist 2; square b back 1; square c turn; square d back 2 turn back 3;");
        is("with itself", x.alike(0, 0), 1);
        is("5 / 3 and -1 / 1", x.alike(0, 1), 0);
        is("-1 / 1 and 1 / 0", x.alike(1, 2), 1);
        is("no such", x.alike(0, 4), -1);
        is("no such", x.alike(-1, 0), -1);
        tangle(x, 3, -5, 2);
        // 5 / 3 and -5 / 2: q 3 and 3
        is("-5 / 2 and 5 / 3", x.alike(3, 0), 1);
        x = with("square a back 3 turn twist 2; square b twist 2 turn back 1 turn; square c; square d turn turn;");
        tangle(x, 0, 7, 3);
        x = with("square a back 3 turn twist 2; square b twist 5 turn back 1 turn; square c; square d turn turn;");
        tangle(x, 1, 5, 6);
        is("p unlike", x.alike(0, 1), 0);
        is("p 0 of both", x.alike(2, 3), 1);
        is("p 0 of one", x.alike(0, 2), 0);
        // 7 / 3 and 7 / 5: 15 less 1 is divided by 7; 7 / 3 and 7 / 2: 5 is not
        x = with("square a back 3 turn twist 2; square b back 2 turn twist 1 turn twist 2 turn turn; square c back 2 turn twist 3;");
        tangle(x, 0, 7, 3);
        tangle(x, 2, 7, 2);
        is("7 / 3 and 7 / 2", x.alike(0, 2), 0);
        x = with("square a back 3 turn twist 2; square b back 2 turn back 3 turn twist 1;");
        tangle(x, 1, 7, 5);
        is("7 / 3 and 7 / 5", x.alike(0, 1), 1);
    }

    private static void closed() {
        about = "promise 22";
        RopeDance x = with("square a twist 3 turn twist 2; square b back 2 turn back 3; square c turn; square d;");
        int[][] due = {{5, 3, 1}, {5, 3, 1}, {1, 0, 1}, {0, 0, 2}};
        for (int square = 0; square < 4; square++) {
            for (int what = 0; what < 3; what++) {
                is("closed(" + square + ", " + what + ")", x.closed(square, what), due[square][what]);
            }
        }
        is("what 3", x.closed(0, 3), -1);
        is("what -1", x.closed(0, -1), -1);
        is("no such", x.closed(4, 0), -1);
        x = with("square a twist 7 turn turn turn twist 1; square b twist 7 turn; square c twist 4 turn twist 2;");
        tangle(x, 0, 6, 7);
        is("Q above P", x.closed(0, 1), 1);
        is("two RINGS", x.closed(0, 2), 2);
        is("q of -1 / 7", x.closed(1, 1), 0);
        tangle(x, 2, 7, 4);
        is("one RING", x.closed(2, 2), 1);
    }

    private static void colours() {
        about = "promise 23";
        RopeDance x = with("square a twist 6; square b turn; square c; square d back 9;");
        is("6 of 4", x.colours(0, 4), 8);
        is("6 of 5", x.colours(0, 5), 5);
        is("6 of 6", x.colours(0, 6), 36);
        is("6 of 2", x.colours(0, 2), 4);
        is("6 of 97", x.colours(0, 97), 97);
        is("1 / 0", x.colours(1, 7), 7);
        is("0 / 1", x.colours(2, 10), 100);
        is("-9 / 1", x.colours(3, 6), 18);
        is("n 1", x.colours(0, 1), -1);
        is("n 98", x.colours(0, 98), -1);
        is("n 0", x.colours(0, 0), -1);
        is("no such", x.colours(4, 3), -1);
        is("no such", x.colours(-1, 3), -1);
    }

    private static void joined() {
        about = "promise 24";
        RopeDance x = with("square a twist 3 turn twist 2; square b back 1; square c turn; square d;");
        is("5 / 3 and -1 / 1", x.joined(0, 1), 2);
        is("5 / 3 and 1 / 0", x.joined(0, 2), 3);
        is("with itself", x.joined(0, 0), 30);
        is("-1 / 1 and itself", x.joined(1, 1), 2);
        is("1 / 0 and itself", x.joined(2, 2), 0);
        is("0 / 1 and -1 / 1", x.joined(3, 1), 1);
        is("no such", x.joined(0, 4), -1);
        is("no such", x.joined(-1, 0), -1);
    }

    private static void orders() {
        about = "promise 25";
        RopeDance x = with("figure a; figure b turn; figure c turn twist 1; figure d twist 1; figure e twist 3 turn twist 1;");
        int[] due = {1, 2, 3, -2, -2};
        for (int figure = 0; figure < 5; figure++) {
            is("order(" + figure + ")", x.order(figure), due[figure]);
        }
        is("no such", x.order(5), -1);
        is("no such", x.order(-1), -1);
        x = with("figure a turn turn; figure b twist 2 turn back 2; figure c back 1 turn; figure d twist 3 turn back 2; figure e turn twist 2;");
        int[] others = {1, 2, 3, 3, -2};
        for (int figure = 0; figure < 5; figure++) {
            is("order(" + figure + ")", x.order(figure), others[figure]);
        }
    }

    private static void rounds() {
        about = "promise 26";
        RopeDance x = with("figure a; figure b turn; figure c turn twist 1; figure d twist 1; figure e twist 3 turn;");
        is("no MOVES", x.round(0, 9), 1);
        is("a turn", x.round(1, 7), 2);
        is("a turn by 2", x.round(1, 2), 2);
        is("turn, twist", x.round(2, 2), 3);
        is("turn, twist by 97", x.round(2, 97), 3);
        is("twist by 5", x.round(3, 5), 5);
        is("twist by 96", x.round(3, 96), 96);
        // 0 -1 / 1 3 by 3 is a turn; by 2: 0 1 / 1 1, three times
        is("by 3", x.round(4, 3), 2);
        is("by 2", x.round(4, 2), 3);
        is("m 1", x.round(0, 1), -1);
        is("m 98", x.round(0, 98), -1);
        is("m 0", x.round(0, 0), -1);
        is("no such", x.round(5, 3), -1);
        is("no such", x.round(-1, 3), -1);
    }

    private static void powers() {
        about = "promise 27";
        RopeDance x = with("figure a twist 1; figure b turn; figure c back 2 turn;");
        int[] due = {1, 6, 0, 1};
        for (int what = 0; what < 4; what++) {
            is("twist, often, by 7", x.power(0, 1000000000, 7, what), due[what]);
            is("0 times", x.power(2, 0, 5, what), what % 3 == 0 ? 1 : 0);
            is("two turns by 5", x.power(1, 2, 5, what), what % 3 == 0 ? 4 : 0);
        }
        is("a turn by 5", x.power(1, 1, 5, 1), 4);
        is("a turn by 5", x.power(1, 1, 5, 2), 1);
        // back 2, turn: 0 -1 / 1 -2; twice: -1 2 / -2 3
        is("twice by 97", x.power(2, 2, 97, 0), 96);
        is("twice by 97", x.power(2, 2, 97, 1), 2);
        is("twice by 97", x.power(2, 2, 97, 2), 95);
        is("twice by 97", x.power(2, 2, 97, 3), 3);
        int[] often = {51, 2, 95, 57};
        RopeDance y = with("figure a turn twist 3;");
        for (int what = 0; what < 4; what++) {
            is("turn, twist, often, by 97", y.power(0, 999999999, 97, what), often[what]);
        }
        is("n -1", x.power(0, -1, 7, 0), -1);
        is("n above", x.power(0, 1000000001, 7, 0), -1);
        is("m 1", x.power(0, 1, 1, 0), -1);
        is("m 98", x.power(0, 1, 98, 0), -1);
        is("m 97", x.power(0, 1, 97, 0), 1);
        is("what 4", x.power(0, 1, 7, 4), -1);
        is("what -1", x.power(0, 1, 7, -1), -1);
        is("no such", x.power(3, 1, 7, 0), -1);
        is("no such", x.power(-1, 1, 7, 0), -1);
    }

    private static void stay(RopeDance x, int figure, int many, int p, int q) {
        is("stays(" + figure + ", 0)", x.stays(figure, 0), many);
        is("stays(" + figure + ", 1)", x.stays(figure, 1), p);
        is("stays(" + figure + ", 2)", x.stays(figure, 2), q);
    }

    private static void staying() {
        about = "promise 28";
        RopeDance x = with("figure a; figure b twist 3; figure c turn; figure d turn twist 2; figure e turn twist 3;");
        stay(x, 0, 12016, 1, 0);
        stay(x, 1, 1, 1, 0);
        stay(x, 2, 0, -1000, -1000);
        stay(x, 3, 1, 1, 1);
        stay(x, 4, 0, -1000, -1000);
        is("what 3", x.stays(0, 3), -1000);
        is("what -1", x.stays(0, -1), -1000);
        is("no such", x.stays(5, 0), -1000);
        is("no such", x.stays(-1, 1), -1000);
        x = with("figure a turn twist 1 turn; figure b turn turn; figure c turn back 2;"
            + "figure d back 2 turn twist 5 turn twist 2; figure e twist 1 turn twist 3 turn twist 1 turn;");
        stay(x, 0, 1, 0, 1);
        stay(x, 1, 12016, 1, 0);
        stay(x, 2, 1, -1, 1);
        stay(x, 3, 1, 2, 1);
        stay(x, 4, 1, -1, 1);
        x = with("figure a back 9 turn twist 9 turn back 9 back 2 turn twist 9; figure b back 9 turn turn;"
            + "figure c twist 9 turn twist 9 turn back 9 back 2 turn back 9; figure d turn turn turn;");
        stay(x, 0, 1, 91, 10);
        stay(x, 1, 1, 1, 0);
        stay(x, 2, 1, -89, 10);
        stay(x, 3, 0, -1000, -1000);
    }

    private static void minding() {
        about = "promise 29";
        RopeDance x = with("figure a twist 1; figure b twist 3; figure c turn; figure d; figure e turn turn;");
        is("twists", x.mind(0, 1), 0);
        is("a twist and a turn", x.mind(0, 2), 1);
        is("a turn and a twist", x.mind(2, 0), 1);
        is("no MOVES", x.mind(2, 3), 0);
        is("two turns", x.mind(4, 0), 0);
        is("with itself", x.mind(2, 2), 0);
        is("no such", x.mind(0, 5), -1);
        is("no such", x.mind(-1, 0), -1);
    }

    private static void reversing() {
        about = "promise 30";
        RopeDance x = with("figure a twist 2; figure b turn; figure c back 1 back 1; figure d turn turn turn; figure e turn back 2;");
        is("twist", x.reverse(0), 2);
        is("turn", x.reverse(1), 1);
        is("backs", x.reverse(2), 0);
        is("three turns", x.reverse(3), 1);
        is("none", x.reverse(4), -2);
        is("no such", x.reverse(5), -1);
        is("no such", x.reverse(-1), -1);
        x = with("figure a twist 1; figure b; figure c turn twist 2; figure d back 2 turn;");
        is("none", x.reverse(0), -2);
        is("itself", x.reverse(1), 1);
        is("turn twist", x.reverse(2), 3);
        is("back turn", x.reverse(3), 2);
    }

    private static void hands() {
        about = "promise 31";
        RopeDance x = with("figure a; figure b twist 1; figure c turn; figure d twist 2; figure e back 1 turn;");
        int[][] due = {{0, 1, 2}, {1, 0, 2}, {2, 1, 0}, {0, 1, 2}, {1, 2, 0}};
        for (int figure = 0; figure < 5; figure++) {
            for (int ends = 0; ends < 3; ends++) {
                is("hands(" + figure + ", " + ends + ")", x.hands(figure, ends), due[figure][ends]);
            }
        }
        is("ends 3", x.hands(0, 3), -1);
        is("ends -1", x.hands(0, -1), -1);
        is("no such", x.hands(5, 0), -1);
        is("no such", x.hands(-1, 0), -1);
    }

    private static void thens() {
        about = "promise 32";
        RopeDance x = with("square a; square b twist 2; figure r twist 1; figure s turn; figure t back 2; seed 42;"
            + "slips = 40; tires = 3 + cross; rests = 2;");
        x.minutes(3);
        for (int n = 0; n <= 60; n += 12) {
            int[] due = new int[6];
            for (int i = 0; i < 6; i++) {
                due[i] = x.then(i / 3, n, i % 3);
            }
            is("minutes(" + n + ")", x.minutes(n), 3 + n);
            for (int i = 0; i < 6; i++) {
                is("then(" + i / 3 + ", " + n + ", " + i % 3 + ")", x.square(i / 3, i % 3 == 2 ? 4 : i % 3), due[i]);
            }
            if (n > 0) {
                x.undo();
            }
        }
        is("nothing happens", x.count(2), 3);
        is("n 61", x.then(0, 61, 0), -1000);
        is("n -1", x.then(0, -1, 0), -1000);
        is("what 3", x.then(0, 1, 3), -1000);
        is("what -1", x.then(0, 1, -1), -1000);
        is("no such", x.then(2, 1, 0), -1000);
        is("no such", x.then(-1, 1, 0), -1000);
    }

    private static void years() {
        about = "promise 33";
        String text = "square a; square b twist 1; figure r twist 1; figure s turn; figure t back 1; slips = 20; seed ";
        for (int n = 0; n <= 6; n += 3) {
            int due = 0;
            for (int seed = 9990; seed < 10000; seed++) {
                RopeDance one = with(text + seed + ";");
                one.minutes(n);
                due += one.square(1, 0) == 0 ? 1 : 0;
            }
            is("year(1, " + n + ", 10)", with(text + "9990;").year(1, n, 10), due);
        }
        RopeDance x = with(text + "9995;");
        is("in 0 minutes", x.year(0, 0, 20), 20);
        is("in 0 minutes", x.year(1, 0, 20), 0);
        is("s 0", x.year(0, 1, 0), -1);
        is("s 21", x.year(0, 1, 21), -1);
        is("n 61", x.year(0, 61, 1), -1);
        is("n -1", x.year(0, -1, 1), -1);
        is("no such", x.year(2, 1, 1), -1);
        is("no such", x.year(-1, 1, 1), -1);
        is("nothing happens", x.count(2), 0);
        x = with("square a; figure f turn twist 1; seed 9999;");
        is("SEEDS above 9999", x.year(0, 3, 20), 20);
        is("as it is now", x.year(0, 2, 20), 0);
        is("in 60 minutes", x.year(0, 60, 1), 1);
        is("in 59 minutes", x.year(0, 59, 1), 0);
    }

    private static void telling() {
        about = "promise 34";
        RopeDance x = new RopeDance();
        is("i 0", x.tell(0, 0, true), -1);
        is("i 5", x.tell(5, 0, true), -1);
        is("ends 3", x.tell(1, 3, true), -1);
        is("ends -1", x.tell(1, -1, false), -1);
        is("nothing happens", x.count(10), 0);
        for (int i = 0; i < 20; i++) {
            is("tell " + i, x.tell(1 + i % 4, i % 3, i % 2 == 0), i);
        }
        is("a 21st", x.tell(1, 0, true), -1);
        is("told", x.count(10), 20);
        is("it is no thing done", x.count(9), 0);
    }

    private static void forgetting() {
        about = "promise 35";
        RopeDance x = new RopeDance();
        is("nothing", x.forget(), 0);
        x.tell(1, 0, true);
        x.tell(2, 0, true);
        is("two", x.forget(), 2);
        is("told", x.count(10), 0);
        is("numbers from 0 on", x.tell(1, 0, true), 0);
    }

    private static void rows() {
        about = "promise 36";
        RopeDance x = with("square a; square b twist 9 twist 9 twist 9 twist 9; figure t twist 1; figure u turn;"
            + "figure v twist 9 twist 9 twist 9 twist 9 twist 9 twist 9 twist 9;");
        is("of 1", x.rows(0, 0, 1, 0), 3);
        is("the first", x.rows(0, 0, 1, 1), 0);
        // 0 / 1: all three behind t and u, t and u behind v
        is("of 2", x.rows(0, 0, 2, 0), 8);
        // 36 / 1: t and u behind t, t and u behind u, u behind v
        is("of 2, of 36 / 1", x.rows(0, 1, 2, 0), 5);
        x.tell(1, 2, true);
        is("known: the turn", x.rows(1, 0, 1, 0), 1);
        is("known: the turn", x.rows(1, 0, 1, 1), 1);
        is("not known yet", x.rows(0, 0, 1, 0), 3);
        x.tell(2, 0, false);
        is("known: not behind a turn again", x.rows(2, 0, 2, 0), 2);
        is("the first of them", x.rows(2, 0, 2, 1), 1 * 3 + 0);
        is("behind more than l", x.rows(2, 0, 1, 0), 0);
        is("behind more than l: none", x.rows(2, 0, 1, 1), -2);
        x.tell(1, 1, true);
        is("against itself", x.rows(3, 0, 2, 0), 0);
        is("against itself: none", x.rows(3, 0, 2, 1), -2);
        is("k 4", x.rows(4, 0, 2, 0), -1);
        is("k -1", x.rows(-1, 0, 2, 0), -1);
        is("l 0", x.rows(0, 0, 0, 0), -1);
        is("l 5", x.rows(0, 0, 5, 0), -1);
        is("what 2", x.rows(0, 0, 1, 2), -1);
        is("what -1", x.rows(0, 0, 1, -1), -1);
        is("no such", x.rows(0, 2, 1, 0), -1);
        is("no such", x.rows(0, -1, 1, 0), -1);
        is("against itself, what 2", x.rows(3, 0, 2, 2), -1);
        x = with("square a;");
        is("no FIGURES", x.rows(0, 0, 1, 0), 0);
        is("no FIGURES", x.rows(0, 0, 4, 1), -2);
        x = with("square a; figure f twist 1; figure g turn; figure h; figure i back 1; figure j back 2;");
        is("of 4", x.rows(0, 0, 4, 0), 625);
        x.tell(4, 2, true);
        x.tell(3, 0, true);
        x.tell(2, 1, true);
        x.tell(1, 0, true);
        // h, then f, then f, then g: 0 / 1, 1 / 1, 2 / 1, -1 / 2
        is("the first by FIGURE", x.rows(4, 0, 4, 1), ((2 * 5 + 0) * 5 + 0) * 5 + 1);
    }

    private static void listening() {
        about = "promise 37";
        RopeDance x = with("square a; figure t twist 1; figure u turn; figure v twist 2;");
        // behind the first: 1, 2, 0: one each
        is("of 1", x.listen(0, 0, 1), 1);
        // behind the first 3 each; behind the second t: 0 1 1, u: 2 0 2, v: 1 2 0: 3 each as well
        is("alike: the first", x.listen(0, 0, 2), 1);
        x.tell(1, 0, true);
        is("behind v: the second", x.listen(1, 0, 2), 2);
        x.tell(1, 0, false);
        is("none FIT", x.listen(2, 0, 2), -2);
        is("k 3", x.listen(3, 0, 2), -1);
        is("k -1", x.listen(-1, 0, 2), -1);
        is("l 0", x.listen(0, 0, 0), -1);
        is("l 5", x.listen(0, 0, 5), -1);
        is("no such", x.listen(0, 1, 2), -1);
        is("no such", x.listen(0, -1, 2), -1);
        x.forget();
        x.tell(3, 0, true);
        is("behind more than l", x.listen(1, 0, 2), -2);
        x = with("square a;");
        is("no FIGURES", x.listen(0, 0, 1), -2);
        x = with("square a; figure t twist 2; figure u twist 4; figure v twist 1;");
        is("behind the first 6 and 3, behind the second 5 and 4", x.listen(0, 0, 2), 2);
        is("the same again", x.listen(0, 0, 2), 2);
        is("of 1", x.listen(0, 0, 1), 1);
        x = with("square a; figure f; figure g twist 2; figure h twist 4; figure i turn;");
        is("behind the first 12 and 4, behind the second 10 and 6", x.listen(0, 0, 2), 2);
        x = with("square a; figure f; figure g twist 1;");
        // behind the first 2 and 2, behind the second 2 and 2, behind the third 4 and 4
        is("half of them each time", x.listen(0, 0, 3), 1);
        x.tell(1, 1, true);
        x.tell(2, 1, true);
        is("the last of three", x.listen(2, 0, 3), 3);
    }

    private static void holding() {
        about = "promise 38";
        RopeDance x = with("square a twist 2; figure f twist 1;");
        is("slot 3", x.hold(3), false);
        is("slot -1", x.hold(-1), false);
        is("none is held", x.count(11), 0);
        is("slot 0", x.hold(0), true);
        is("slot 2", x.hold(2), true);
        is("two are held", x.count(11), 2);
        x.minutes(2);
        is("again", x.hold(0), true);
        is("two are held", x.count(11), 2);
        is("it is no thing done", x.count(9), 1);
        x.undo();
        x.restore(0);
        is("what was held last", x.count(2), 2);
        is("an object without a text", new RopeDance().hold(1), true);
    }

    private static void restoring() {
        about = "promise 39";
        RopeDance x = with("square a twist 2; square b turn; figure f twist 1; tires = 3;");
        is("nothing is held", x.restore(0), false);
        is("no such slot", x.restore(3), false);
        is("no such slot", x.restore(-1), false);
        x.call(0, 0);
        x.minutes(2);
        x.hold(1);
        x.tell(1, 0, true);
        x.feed(0, 0, 0, 0, 0);
        is("another slot", x.restore(0), false);
        is("nothing happens", x.count(9), 2);
        x.minutes(7);
        x.let(1);
        x.call(0, 0);
        x.tell(2, 0, true);
        is("restore", x.restore(1), true);
        tangle(x, 0, 5, 1);
        tangle(x, 1, 1, 0);
        is("minute", x.count(2), 2);
        is("paid", x.count(3), 3 + 4);
        is("tired", x.square(0, 4), 9);
        is("called", x.square(0, 8), 3);
        is("told stays", x.count(10), 2);
        is("the tape stays", x.count(8), 20);
        is("nothing can be undone", x.undo(), false);
        is("things done", x.count(9), 0);
        x.move(0, 0, 1);
        is("it stays there", x.restore(1), true);
        tangle(x, 0, 5, 1);
        x.back(20);
        put(x, "square a;");
        x.read();
        is("a new text: nothing is held", x.restore(1), false);
    }

    private static void counting() {
        about = "promise 40";
        RopeDance x = with("square a twist 3 turn twist 2; square b twist 4; square c turn; square d; figure f twist 2; figure g;"
            + "tires = 7; pays = 2;");
        x.call(0, 0);
        x.call(1, 0);
        x.minutes(2);
        x.undo();
        x.minutes(1);
        x.let(1);
        x.tell(1, 0, true);
        x.hold(2);
        x.feed(0, 0, 0, 0, 0);
        int called = 0;
        for (int i = 0; i < 4; i++) {
            called += x.square(i, 8);
        }
        int[] due = {4, 2, 1, 8, crossings(x), undone(x), 7 * called, called, 20, 4, 1, 1, ends(x, 0), ends(x, 2)};
        for (int what = 0; what < due.length; what++) {
            is("count(" + what + ")", x.count(what), due[what]);
        }
        is("called", called, 6);
        is("squares of ENDS 2", x.count(13), 4);
        is("what 14", x.count(14), -1);
        is("what -1", x.count(-1), -1);
        x = with("square a twist 3 turn twist 2; square b twist 4; square c turn; square d;");
        is("crossings of all", x.count(4), 4 + 4 + 0 + 0);
        is("squares that are 0 / 1", x.count(5), 8);
        is("squares of ENDS 0", x.count(12), 2 + 8);
        is("squares of ENDS 2", x.count(13), 4);
    }

    private static int crossings(RopeDance x) {
        int sum = 0;
        for (int i = 0; i < x.count(0); i++) {
            sum += x.square(i, 2);
        }
        return sum;
    }

    private static int undone(RopeDance x) {
        int bits = 0;
        for (int i = 0; i < x.count(0); i++) {
            bits += x.square(i, 0) == 0 ? 1 << i : 0;
        }
        return bits;
    }

    private static int ends(RopeDance x, int ends) {
        int bits = 0;
        for (int i = 0; i < x.count(0); i++) {
            bits += x.square(i, 3) == ends ? 1 << i : 0;
        }
        return bits;
    }
}
