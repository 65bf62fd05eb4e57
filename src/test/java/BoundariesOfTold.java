/** Part IV of 'Terms' and promises 34 to 37: what is TOLD, ROWS that FIT it, where to LISTEN. */
final class BoundariesOfTold extends Sentences {
    private static final String THREE = "square a;figure f twist 1;figure g turn;figure h twist 2;";

    private BoundariesOfTold() {
    }

    static void run() {
        objects();
        told();
        known();
        rowsThatFit();
        firstRows();
        listening();
        noneAheadOfOthers();
        telling();
        forgetting();
        rows();
        listen();
    }

    /** The last of 512 calls is still answered as it is due; nothing is promised of a later one. */
    private static void objects() {
        about = "What it is, \"An object is used for at most 512 calls after it has been made;\"";
        RopeDance x = new RopeDance();
        // seven feeds, a back and a read: nine calls
        put(x, times(5, "seed 1;") + "square abc;figure f turn;" + times(9, "seed 9;") + "seed 2; ");
        is("read", x.read(), 0);
        for (int i = 0; i < 501; i++) {
            x.call(0, 0);
        }
        is("called", x.square(0, 8), 501);
    }

    private static void told() {
        terms("==== IV. TOLD: that a SQUARE, FIGURES being CALLED now, has such ENDS (0 .. 2) behind the i-th (1 .. 4), or has not;"
            + " 20 at most, numbered from 0 on;");
        for (int i = -1; i <= 6; i++) {
            for (int ends = -1; ends <= 4; ends++) {
                RopeDance x = with(THREE);
                int due = i >= 1 && i <= 4 && ends >= 0 && ends <= 2 ? 0 : -1;
                is("tell(" + i + ", " + ends + ", true)", x.tell(i, ends, true), due);
                is("tell(" + i + ", " + ends + ", false)", x.tell(i, ends, false), due == 0 ? 1 : -1);
                is("TOLD", x.count(10), due == 0 ? 2 : 0);
            }
        }
        RopeDance x = with(THREE);
        for (int i = 0; i < 20; i++) {
            is("tell", x.tell(1, 2, true), i);
        }
        is("a 21st", x.tell(1, 2, true), -1);
        is("TOLD", x.count(10), 20);
        is("KNOWN by all 20", x.rows(20, 0, 1, 0), 1);
        // of the SQUARE as it is when it is asked
        x = with(THREE);
        x.tell(1, 2, true);
        is("of 0 / 1: the turn", x.rows(1, 0, 1, 1), 1);
        x.move(0, 2, 0);
        is("of 1 / 0: twist 1 and twist 2", x.rows(1, 0, 1, 0), 2);
        is("of 1 / 0: the first", x.rows(1, 0, 1, 1), 0);
    }

    private static void known() {
        terms("KNOWN by k: the first k.");
        RopeDance x = with(THREE);
        x.tell(1, 1, false);
        x.tell(1, 2, false);
        x.tell(1, 0, false);
        int[] due = {3, 2, 1, 0};
        for (int k = 0; k <= 3; k++) {
            is("rows(" + k + ", 0, 1, 0)", x.rows(k, 0, 1, 0), due[k]);
        }
        is("KNOWN by more than there are", x.rows(4, 0, 1, 0), -1);
        x.forget();
        is("KNOWN by none", x.rows(0, 0, 1, 0), 3);
        is("KNOWN by one that was forgotten", x.rows(1, 0, 1, 0), -1);
    }

    private static void rowsThatFit() {
        terms("ROWS of l (1 .. 4) of a SQUARE: those of l FIGURES, each of which can be made then, by which all that is KNOWN is so"
            + " (of what is behind more than l nothing is so, nor not so: such a row does not FIT): how many FIT;");
        RopeDance x = with(THREE);
        int[] all = {3, 9, 27, 81};
        for (int l = 1; l <= 4; l++) {
            is("nothing KNOWN, of " + l, x.rows(0, 0, l, 0), all[l - 1]);
        }
        for (int behind = 1; behind <= 4; behind++) {
            for (int ends = 0; ends < 3; ends++) {
                RopeDance y = with(THREE);
                y.tell(behind, ends, true);
                RopeDance z = with(THREE);
                z.tell(behind, ends, false);
                for (int l = 1; l <= 4; l++) {
                    int so = y.rows(1, 0, l, 0);
                    int notSo = z.rows(1, 0, l, 0);
                    String what = "ENDS " + ends + " behind " + behind + " of " + l;
                    is(what + ", so or not so", so + notSo, behind > l ? 0 : all[l - 1]);
                    is(what + ", the first that is so", y.rows(1, 0, l, 1) == -2, so == 0);
                    is(what + ", the first that is not so", z.rows(1, 0, l, 1) == -2, notSo == 0);
                }
            }
        }
        x.tell(2, 0, true);
        // 0 / 1: twist 1 twice; turn twice; twist 2 twice
        is("ENDS 0 behind the second", x.rows(1, 0, 2, 0), 3);
        is("of one", x.rows(1, 0, 1, 0), 0);
        is("of three", x.rows(1, 0, 3, 0), 9);
        // each of which can be made then: of 99 / 1 the twists can not, but behind a turn
        x = at(99, 1, "99");
        is("the turn, back 9, back 9 and twist 9", x.rows(0, 0, 1, 0), 3);
        x = with("square a;figure f twist 9;figure g turn;");
        walk(x, 0, "90");
        is("of 90 / 1, of 2: f g, g g", x.rows(0, 0, 2, 0), 2);
        is("of 90 / 1, of 3: f g g, g g f, g g g", x.rows(0, 0, 3, 0), 3);
        is("no FIGURES", with("square a;").rows(0, 0, 1, 0), 0);
        is("no FIGURES, of 4", with("square a;").rows(0, 0, 4, 0), 0);
        is("five FIGURES, of 4", with("square a;figure f;figure g;figure h;figure i;figure j;").rows(0, 0, 4, 0), 625);
    }

    private static void firstRows() {
        terms("the first, by the FIGURE called first, then the next one: how many FIGURES there are times what those so far"
            + " come to and the FIGURE, to the last one.");
        RopeDance x = with(THREE);
        for (int l = 1; l <= 4; l++) {
            is("of " + l, x.rows(0, 0, l, 1), 0);
        }
        x.tell(1, 0, true);
        is("twist 2", x.rows(1, 0, 1, 1), 2);
        is("twist 2, twist 1", x.rows(1, 0, 2, 1), 2 * 3);
        is("twist 2, twist 1 and twist 1 twice", x.rows(1, 0, 4, 1), 2 * 27);
        x.tell(2, 2, true);
        is("twist 2, turn", x.rows(2, 0, 2, 1), 2 * 3 + 1);
        x.tell(3, 1, true);
        is("twist 2, turn, none", x.rows(3, 0, 3, 1), -2);
        x = with("square a;figure f turn twist 9;figure g;figure h;figure i;figure j twist 1;");
        x.tell(4, 1, true);
        x.tell(3, 0, true);
        x.tell(2, 0, true);
        x.tell(1, 0, true);
        is("g, g, g, j", x.rows(4, 0, 4, 1), ((5 + 1) * 5 + 1) * 5 + 4);
        x = with("square a;figure f twist 9 back 9;figure g back 9;figure h turn;figure i;figure j;");
        walk(x, 0, "99");
        is("of 99 / 1", x.rows(0, 0, 2, 1), 5);
        x = with("square a;figure f twist 9;figure g twist 9;figure h twist 9;figure i twist 9;figure j turn;");
        walk(x, 0, "99");
        x.tell(2, 1, true);
        x.tell(4, 1, true);
        is("of 99 / 1: the turn four times is the last one", x.rows(2, 0, 4, 1), 624);
        is("and the only one", x.rows(2, 0, 4, 0) >= 1, true);
        is("one FIGURE", with("square a;figure f;").rows(0, 0, 4, 1), 0);
    }

    private static void listening() {
        terms("LISTEN of l of a SQUARE: the i (1 .. l) of which, once ENDS behind it are told, fewest are left, at worst;"
            + " of alike ones the first.");
        RopeDance x = with(THREE);
        is("of one", x.listen(0, 0, 1), 1);
        is("of two, alike", x.listen(0, 0, 2), 1);
        is("no MOVES, alike", with("square a;figure f;figure g;").listen(0, 0, 4), 1);
        // behind the first 6 and 3 of 9, behind the second 5 and 4
        is("the second", with("square a;figure f twist 2;figure g twist 4;figure h twist 1;").listen(0, 0, 2), 2);
        // f, g: no ENDS but 0 till the last one
        x = with("square a;figure f twist 2;figure g twist 1;");
        is("alike ones", x.listen(0, 0, 4), 1);
        x.tell(1, 0, true);
        is("the second of four", x.listen(1, 0, 4), 2);
        x.tell(2, 0, true);
        is("the third of four", x.listen(2, 0, 4), 3);
        x.tell(3, 0, true);
        is("the fourth of four", x.listen(3, 0, 4), 4);
        is("of three of them all is told", x.listen(3, 0, 3), 1);
        // ENDS 0, 1 and 2 behind each: 0 8 0, 4 0 4, 2 4 2
        is("8, 4 and 4", with("square a;figure f twist 1 turn;figure g back 1;").listen(0, 0, 3), 2);
        // 4 4 0, 2 4 2, 2 3 3
        is("4, 4 and 3", with("square a;figure f twist 1 turn;figure g twist 4;").listen(0, 0, 3), 3);
        // 2 2 0, 1 1 2: at worst they are alike
        is("2 and 2", with("square a back 2 turn;figure f turn twist 2;figure g turn back 1 turn;").listen(0, 0, 2), 1);
        // 54 0 26, 36 0 44, 41 0 39, 39 0 41
        is("54, 44, 41 and 41", with("square a back 2 turn;figure f turn twist 2;figure g twist 4;figure h turn;").listen(0, 0, 4), 3);
        // 27 27 25, 26 27 26, 25 27 27, 25 27 27
        is("27 each", with("square a back 2 turn;figure f turn twist 2;figure g twist 4;figure h twist 1 turn twist 1;").listen(0, 0, 4), 1);
    }

    private static void noneAheadOfOthers() {
        terms("Where NONE and -2 could both be told, it is NONE, if it is not told otherwise.");
        RopeDance x = with("square a twist 1;square b;figure f turn turn;");
        x.tell(1, 2, true);
        is("none FIT, k 2", x.listen(2, 0, 1), -1);
        is("none FIT, k -1", x.listen(-1, 0, 1), -1);
        is("none FIT, l 0", x.listen(1, 0, 0), -1);
        is("none FIT, l 5", x.listen(1, 0, 5), -1);
        is("none FIT, no such SQUARE", x.listen(1, 2, 1), -1);
        is("none FIT", x.listen(1, 0, 1), -2);
        is("the first of none, k 2", x.rows(2, 0, 1, 1), -1);
        is("the first of none, l 0", x.rows(1, 0, 0, 1), -1);
        is("the first of none, l 5", x.rows(1, 0, 5, 1), -1);
        is("the first of none, no such SQUARE", x.rows(1, -1, 1, 1), -1);
        is("the first of none", x.rows(1, 0, 1, 1), -2);
        is("no PLAN, no such i", x.plan(0, -2), -1);
        is("no way to BRING, no such i", x.bring(0, 1, -2), -1);
        is("no PLAN, not so many", x.plan(0, 0), -2);
        is("no way to BRING, not so many", x.bring(0, 1, 5), -2);
        is("never, no such FIGURE", with("figure f twist 1;").order(1), -1);
        is("no REVERSE, no such FIGURE", with("figure f twist 1;").reverse(1), -1);
    }

    private static void telling() {
        promise(34, "It is TOLD: its number; NONE, and nothing happens: 20 are there, no such ones.");
        RopeDance x = new RopeDance();
        for (int i : new int[] {0, -1, 5, 6, LEAST, GREATEST}) {
            is("tell(" + i + ", 0, true)", x.tell(i, 0, true), -1);
        }
        for (int ends : NONE_OF_THREE) {
            is("tell(1, " + ends + ", false)", x.tell(1, ends, false), -1);
        }
        is("TOLD", x.count(10), 0);
        for (int i = 0; i < 20; i++) {
            is("tell", x.tell(1 + i % 4, i % 3, i % 2 == 0), i);
        }
        for (int i = 1; i <= 4; i++) {
            is("20 are there", x.tell(i, 0, true), -1);
        }
        is("TOLD", x.count(10), 20);
        is("things done", x.count(9), 0);
        x.forget();
        is("behind all that was forgotten", x.tell(4, 2, false), 0);
        // undo and restore leave what is TOLD
        x.minutes(1);
        x.hold(0);
        x.tell(1, 0, true);
        x.undo();
        is("TOLD", x.count(10), 2);
        x.restore(0);
        is("TOLD", x.count(10), 2);
    }

    private static void forgetting() {
        promise(35, "All that was TOLD is forgotten: how many there were.");
        RopeDance x = with(THREE);
        is("none", x.forget(), 0);
        x.tell(1, 0, true);
        is("one", x.forget(), 1);
        is("none again", x.forget(), 0);
        for (int i = 0; i < 21; i++) {
            x.tell(1, 0, true);
        }
        is("all 20", x.forget(), 20);
        is("TOLD", x.count(10), 0);
        is("nothing KNOWN", x.rows(0, 0, 1, 0), 3);
        is("KNOWN by one", x.rows(1, 0, 1, 0), -1);
        is("it is no thing done", x.undo(), false);
    }

    private static void rows() {
        promise(36, "ROWS, as KNOWN by k: what 0 how many FIT, 1 the first (-2: none); NONE: no such ones.");
        RopeDance x = with(THREE + "square b;square c;square d;");
        x.tell(1, 1, true);
        x.tell(1, 2, true);
        is("how many", x.rows(1, 3, 1, 0), 1);
        is("the first", x.rows(1, 3, 1, 1), 0);
        is("how many of none", x.rows(2, 3, 1, 0), 0);
        is("the first of none", x.rows(2, 3, 1, 1), -2);
        for (int k : new int[] {-1, 3, 4, 20, 21, LEAST, GREATEST}) {
            is("rows(" + k + ", 0, 1, 0)", x.rows(k, 0, 1, 0), -1);
        }
        for (int l : new int[] {-1, 0, 5, 6, LEAST, GREATEST}) {
            is("rows(0, 0, " + l + ", 0)", x.rows(0, 0, l, 0), -1);
        }
        for (int what : new int[] {-1, 2, 3, LEAST, GREATEST}) {
            is("rows(0, 0, 1, " + what + ")", x.rows(0, 0, 1, what), -1);
        }
        for (int none : NONE_OF_FOUR) {
            is("rows(0, " + none + ", 1, 0)", x.rows(0, none, 1, 0), -1);
        }
        is("no FIGURES: the first", with("square a;").rows(0, 0, 1, 1), -2);
    }

    private static void listen() {
        promise(37, "LISTEN, as KNOWN by k; -2: none FIT; NONE: no such ones.");
        RopeDance x = with(THREE + "square b;square c;square d;");
        x.tell(1, 1, true);
        x.tell(1, 2, true);
        x.tell(3, 0, true);
        is("KNOWN by none", x.listen(0, 3, 4), 1);
        is("KNOWN by one", x.listen(1, 3, 2), 2);
        is("none FIT", x.listen(2, 3, 2), -2);
        is("no FIGURES", with("square a;").listen(0, 0, 4), -2);
        RopeDance y = with(THREE);
        y.tell(3, 0, false);
        is("behind more than l", y.listen(1, 0, 2), -2);
        is("behind as many as l", y.listen(1, 0, 3) > 0, true);
        for (int k : new int[] {-1, 4, 20, LEAST, GREATEST}) {
            is("listen(" + k + ", 0, 1)", x.listen(k, 0, 1), -1);
        }
        for (int l : new int[] {-1, 0, 5, 6, LEAST, GREATEST}) {
            is("listen(0, 0, " + l + ")", x.listen(0, 0, l), -1);
        }
        for (int none : NONE_OF_FOUR) {
            is("listen(0, " + none + ", 1)", x.listen(0, none, 1), -1);
        }
    }
}
