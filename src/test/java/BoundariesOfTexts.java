/** Part I of 'Terms' and promises 1 to 5: the tape, TOKENS, what a text may tell, its FAULTS. */
final class BoundariesOfTexts extends Sentences {
    private static final String[] WORDS = {"square", "figure", "tires", "rests", "pays", "slips", "seed", "twist", "back",
        "turn", "if", "then", "else", "over", "under", "cross", "ends", "tired", "minute", "which", "moves", "called"};
    private static final String[] VARS = {"over", "under", "cross", "ends", "tired", "minute", "which", "moves", "called"};
    private static final String[] LAWS = {"tires", "rests", "pays", "slips"};
    // a TELL of each kind, its TOKENS with one blank between
    private static final String[] TELLS = {"square a twist 9 turn back 1 ;", "figure b turn ;", "seed 17 ;",
        "pays = if ( over + 1 ) < 2 * 3 then 4 - 5 else if 6 < 7 then which else ( 8 / ( 9 ) ) ;"};
    private static final String FOUR_SQUARES = "square a;square b;square c;square d;";
    private static final String FIVE_FIGURES = "figure e;figure f;figure g;figure h;figure i;";

    private BoundariesOfTexts() {
    }

    static void run() {
        longTexts();
        blanks();
        longestTokens();
        names();
        ints();
        signs();
        noTokens();
        grammar();
        cutTexts();
        squaresAndFigures();
        moves();
        lawsNotTold();
        placesOfFaults();
        syntax();
        tokenRoom();
        roomOfSorts();
        roomOfLaws();
        twice();
        wrong();
        knots();
        textsWithFault();
        textsInPlace();
        newObject();
        feeding();
        takingBack();
        reading();
        placing();
    }

    private static boolean isBlank(int one) {
        return one == 9 || one == 10 || one == 13 || one == 32;
    }

    private static boolean isLetter(int one) {
        return one >= 'a' && one <= 'z';
    }

    private static boolean isDigit(int one) {
        return one >= '0' && one <= '9';
    }

    private static void longTexts() {
        terms("A TEXT has 2,000 bytes at most.");
        RopeDance x = new RopeDance();
        put(x, times(1991, " ") + "square a;");
        is("bytes of a full tape", x.count(8), 2000);
        is("one feed more", x.feed(0x20202020, 0x20202020, 0x20202020, 0x20202020, 0x20202020), -1);
        is("read up to its last byte", x.read(), 0);
        is("SQUARES of it", x.count(0), 1);
        put(x, times(1999, "\n") + "?");
        is("read of one that is none, the last byte", x.read(), 1);
        is("its place", x.place(), 1999);
        put(x, "square a" + times(1992, "\t"));
        is("read of one cut off at the last byte", x.read(), 1);
        is("the end of a full tape", x.place(), 2000);
        put(x, times(2000, "\r"));
        is("read of blanks alone", x.read(), 0);
        is("no SQUARES of blanks", x.count(0), 0);
    }

    private static void blanks() {
        terms("with blanks (9, 10, 13, 32) between or not:");
        for (int one = 0; one < 256; one++) {
            char c = (char) one;
            // letters go on with the word, all else that is no blank is in the way
            int due = isBlank(one) ? 0 : 1;
            int place = isBlank(one) ? -1 : isLetter(one) ? 0 : 6;
            fault("square" + c + "a;", due, place);
            fault(c + "square a;", due, isBlank(one) ? -1 : 0);
            fault("square a;" + c, due, isBlank(one) ? -1 : 9);
        }
        noFault("square a twist 1;figure b turn;pays=if over<2 then(3)else 4;seed 5;");
        noFault("square a twist1back2turn;pays=if 1<2then 3else 4;seed5;");
        noFault("\r\n\t square\r\n\t a\r\n\t twist\r\n\t 1\r\n\t ;\r\n\t ");
        noFault("pays = ( ( over ) + 1 ) * ( 2 ) ;");
    }

    private static void longestTokens() {
        terms("TOKENS, the longest that can be,");
        // 12, and not 1 and 2; one NAME, and not 'square' and a
        fault("square a twist12;", 5, 14);
        fault("squarea;", 1, 0);
        fault("square a turnturn;", 1, 9);
        fault("square a turn turns;", 1, 14);
        RopeDance x = with("square squarea twist 3;square turnturn;square ifthen;square i;");
        is("NAMES that begin like words", x.count(0), 4);
        is("pays of 12 on end", with("square a;pays=12;").square(0, 6), 12);
        // a NAME ends where a digit begins, and an INT where a letter does
        fault("square a1;", 1, 8);
        fault("seed 1a;", 1, 6);
        noFault("square a twist 1twist 2;");
    }

    private static void names() {
        terms("NAMES (letters a .. z, 8 at most, none of the words in quotes),");
        for (int one = 0; one < 256; one++) {
            if (isLetter(one)) {
                noFault("square " + (char) one + ";");
                noFault("square b" + (char) one + "b;");
            } else {
                fault("square " + (char) one + ";", 1, isBlank(one) ? 8 : 7);
                fault("square b" + (char) one + "b;", 1, isBlank(one) || one == ';' ? 9 : 8);
            }
        }
        noFault("square abcdefgh;figure zzzzzzzz;");
        fault("square abcdefghi;", 1, 7);
        fault("figure zzzzzzzzz;", 1, 7);
        fault("square " + times(300, "a") + ";", 1, 7);
        // two NAMES of eight letters that differ in one alone are two
        noFault("square aaaaaaaa;square aaaaaaab;square baaaaaaa;square aaaaaaa;");
        for (String word : WORDS) {
            fault("square " + word + ";", 1, 7);
            fault("figure " + word + ";", 1, 7);
            noFault("square x" + word + ";");
            noFault("square " + word + "x;");
            noFault("square " + word.substring(1) + ";");
            noFault("square " + word.substring(0, word.length() - 1) + ";");
        }
    }

    private static void ints() {
        terms("INTS (1 to 4 digits),");
        noFault("seed 0;");
        noFault("seed 9999;");
        noFault("seed 0000;");
        fault("seed ;", 1, 5);
        fault("seed 10000;", 1, 5);
        fault("seed 00000;", 1, 5);
        fault("seed " + times(200, "9") + ";", 1, 5);
        fault("pays = 1 + 12345;", 1, 11);
        fault("square a twist 00001;", 1, 15);
        is("the greatest of a LAW", with("square a;pays=9999-9900;").square(0, 6), 99);
        is("zeros ahead", with("square a;pays=0007;").square(0, 6), 7);
        for (int one = 0; one < 256; one++) {
            if (isDigit(one)) {
                noFault("seed " + (char) one + ";");
            } else {
                fault("seed " + (char) one + ";", 1, isBlank(one) ? 6 : 5);
            }
        }
    }

    private static void signs() {
        terms("SIGNS ; = + - * / < ( ) .");
        for (int one = 0; one < 256; one++) {
            char c = (char) one;
            boolean goesOn = c == '+' || c == '-' || c == '*' || c == '/' || isDigit(one);
            fault("pays=1" + c + "1;", goesOn ? 0 : 1, goesOn ? -1 : c == ';' || isBlank(one) ? 7 : 6);
            fault("pays" + c + "1;", c == '=' ? 0 : 1, c == '=' ? -1 : isLetter(one) ? 0 : isBlank(one) ? 5 : 4);
            boolean isNumber = c == '(' || isDigit(one);
            fault("pays=" + c + "1);", c == '(' ? 0 : 1, c == '(' ? -1 : isBlank(one) || isNumber ? 7 : 5);
            fault("pays=(1" + c + ";", c == ')' ? 0 : 1, c == ')' ? -1 : isSignOfE(c) || isDigit(one) || isBlank(one) ? 8 : 7);
            fault("pays=if 1" + c + "2then 3else 4;", c == '<' ? 0 : 1,
                c == '<' ? -1 : isSignOfE(c) ? 11 : isDigit(one) ? 11 : isBlank(one) ? 10 : 9);
        }
    }

    private static boolean isSignOfE(char c) {
        return c == '+' || c == '-' || c == '*' || c == '/';
    }

    private static void noTokens() {
        terms("A longer one, all else, is no TOKEN.");
        // a longer one is not cut into two that would do
        fault("square squareab cdefghij;", 1, 16);
        fault("square a;seed 12345678;", 1, 14);
        fault("square a;squaresquare b;", 1, 9);
        fault("pays=calledover;", 1, 5);
        fault("pays=1+AB;", 1, 7);
        fault("square a.b;", 1, 8);
        fault("square a, b;", 1, 8);
        fault("square \"a\";", 1, 7);
        fault("pays=1<=2;", 1, 6);
        fault("seed 1.5;", 1, 6);
        fault("square a;\u0080", 1, 9);
        fault("square a;\u00ff", 1, 9);
        fault("square a;\u00a0", 1, 9);
        fault("\u0000", 1, 0);
    }

    private static void grammar() {
        terms("text: {TELL}.");
        noFault("");
        noFault("\n");
        fault(";", 1, 0);
        fault("square a;;", 1, 9);
        terms("TELL: 'square' NAME {MOVE} ';' | 'figure' NAME {MOVE} ';' |"
            + " ('tires' | 'rests' | 'pays' | 'slips') LAW ';' | 'seed' INT ';'.");
        noFault("square a;figure b;tires=1;rests=1;pays=1;slips=1;seed 1;");
        noFault("seed 1;slips=1;pays=1;rests=1;tires=1;figure b;square a;");
        for (String word : WORDS) {
            boolean begins = word.equals("square") || word.equals("figure") || word.equals("seed");
            for (String law : LAWS) {
                begins = begins || word.equals(law);
            }
            fault(word + " <", 1, begins ? word.length() + 1 : 0);
        }
        fault("a;", 1, 0);
        fault("1;", 1, 0);
        fault("square a b;", 1, 9);
        fault("square a = 1;", 1, 9);
        fault("seed a;", 1, 5);
        fault("seed 1 2;", 1, 7);
        fault("seed = 1;", 1, 5);
        fault("pays a = 1;", 1, 5);
        terms("MOVE: 'twist' INT | 'back' INT | 'turn'.");
        noFault("square a twist 1 back 1 turn;");
        fault("square a twist;", 1, 14);
        fault("square a back;", 1, 13);
        fault("square a turn 1;", 1, 14);
        fault("square a twist twist 1;", 1, 15);
        fault("square a 1;", 1, 9);
        fault("square a twist -1;", 1, 15);
        fault("square a twist (1);", 1, 15);
        terms("LAW: '=' {'if' E '<' E 'then' E 'else'} E.");
        noFault("pays=1;");
        noFault("pays=if 1<2 then 3 else if 4<5 then 6 else 7;");
        fault("pays=if 1 then 2 else 3;", 1, 10);
        fault("pays=if 1<2<3 then 2 else 3;", 1, 11);
        fault("pays=if 1<2 then 3;", 1, 18);
        fault("pays=if 1<2 else 3;", 1, 12);
        fault("pays=if 1<2 then 3 else;", 1, 23);
        fault("pays=if 1<2 then if 1<2 then 3 else 4 else 5;", 1, 17);
        fault("pays=(if 1<2 then 3 else 4);", 1, 6);
        fault("pays=1<2;", 1, 6);
        fault("pays==1;", 1, 5);
        fault("pays=;", 1, 5);
        terms("E: PART {('+' | '-') PART}. PART: UNIT {('*' | '/') UNIT}. UNIT: INT | VAR | '(' E ')'.");
        noFault("pays=1+2-3*4/5+(6)*(7-8)/(9);");
        fault("pays=-1;", 1, 5);
        fault("pays=1+;", 1, 7);
        fault("pays=1+-1;", 1, 7);
        fault("pays=1*/1;", 1, 7);
        fault("pays=1 1;", 1, 7);
        fault("pays=();", 1, 6);
        fault("pays=(1;", 1, 7);
        fault("pays=1);", 1, 6);
        fault("pays=(1)(1);", 1, 8);
        fault("pays=(1+2;", 1, 9);
        fault("pays=a;", 1, 5);
        terms("VAR: 'over' | 'under' | 'cross' | 'ends' | 'tired' | 'minute' | 'which' | 'moves' | 'called'.");
        for (String word : WORDS) {
            boolean isVar = false;
            for (String var : VARS) {
                isVar = isVar || word.equals(var);
            }
            fault("pays=1+" + word + ";", isVar ? 0 : 1, isVar ? -1 : 7);
        }
    }

    /** Each text without its last TOKENS is cut off: the FAULT stands at its end, if it does not end a TELL. */
    private static void cutTexts() {
        terms("FAULTS of a text, the first by its place (a byte; the text's end: its length),");
        for (String tell : TELLS) {
            for (int at = tell.indexOf(' '); at >= 0; at = tell.indexOf(' ', at + 1)) {
                fault(tell.substring(0, at), 1, at);
                fault(tell.substring(0, at) + " \n", 1, at + 2);
            }
            noFault(tell);
            noFault(tell + " ");
        }
    }

    private static void squaresAndFigures() {
        terms("SQUARES, 4 at most (a NAME, the MOVES, 8 at most, that made its TANGLE out of 0 / 1),"
            + " FIGURES, 5 at most (a NAME, MOVES, 8 at most), numbered each from 0 on as they stand;");
        RopeDance x = with("square a;figure k;" + "square b twist 1;square c twist 2;figure l turn;square d twist 3 turn;"
            + "figure m turn turn;figure n twist 1;figure o;");
        is("SQUARES", x.count(0), 4);
        is("FIGURES", x.count(1), 5);
        tangle(x, 0, 0, 1);
        tangle(x, 1, 1, 1);
        tangle(x, 2, 2, 1);
        tangle(x, 3, -1, 3);
        int[] moves = {0, 1, 2, 1, 0};
        for (int i = 0; i < 5; i++) {
            is("MOVES of FIGURE " + i, x.figure(i, 4), moves[i]);
        }
        fault(FOUR_SQUARES + FIVE_FIGURES, 0, -1);
        x = with("square a twist 1 twist 1 twist 1 twist 1 twist 1 twist 1 twist 1 turn;"
            + "figure f twist 1 turn twist 1 turn twist 1 turn twist 1 turn;");
        tangle(x, 0, -1, 7);
        is("eight MOVES", x.figure(0, 4), 8);
        fault("square a turn turn turn turn turn turn turn turn turn;", 2, 49);
        fault("figure a turn turn turn turn turn turn turn turn turn;", 2, 49);
    }

    private static void moves() {
        terms("INTS of MOVES 1 .. 9.");
        for (int k = 0; k <= 12; k++) {
            boolean isOne = k >= 1 && k <= 9;
            fault("square a twist " + k + ";", isOne ? 0 : 5, isOne ? -1 : 15);
            fault("square a back " + k + ";", isOne ? 0 : 5, isOne ? -1 : 14);
            fault("figure a twist " + k + ";", isOne ? 0 : 5, isOne ? -1 : 15);
            fault("figure a back " + k + ";", isOne ? 0 : 5, isOne ? -1 : 14);
        }
        tangle(with("square a twist 0009;"), 0, 9, 1);
        tangle(with("square a back 01;"), 0, -1, 1);
    }

    private static void lawsNotTold() {
        terms("LAWS: TIRES (moves), RESTS (1), PAYS (cross), SLIPS (0), if not told; the last one.");
        RopeDance x = with("square a twist 5;figure f turn twist 2 turn;figure g;");
        is("TIRES not told", x.tires(0, 0), 3);
        is("TIRES not told, of no MOVES", x.tires(0, 1), 0);
        is("RESTS not told", x.square(0, 5), 1);
        is("PAYS not told", x.square(0, 6), 5);
        is("SLIPS not told", x.square(0, 7), 0);
        for (int i = 0; i < 4; i++) {
            String law = LAWS[i];
            x = with("square a twist 5;figure f turn;" + law + "=21;" + law + "=if 1<2 then 22 else 23;" + law + "=24;");
            int[] due = {1, 1, 5, 0};
            due[i] = 24;
            is("TIRES, told thrice: " + law, x.tires(0, 0), due[0]);
            for (int what = 1; what < 4; what++) {
                is("LAW " + what + ", told thrice: " + law, x.square(0, 4 + what), due[what]);
            }
        }
        // as many LAWS as 400 TOKENS can tell
        x = with("square a;" + times(98, "pays=3;") + "pays=4;");
        is("the last of 99", x.square(0, 6), 4);
        terms("SEED 0 .. 9999 (0): the last one.");
        String text = "square a;figure f twist 1;figure g twist 2;figure h twist 3;figure i twist 4;figure j twist 5;";
        // the LOTS of 5 of the minutes 0 .. 5 of SQUARE 0, one more, by the SEEDS 0, 1 and 9999
        firstLots(with(text), 2, 3, 4, 4, 5, 4);
        firstLots(with(text + "seed 0;"), 2, 3, 4, 4, 5, 4);
        firstLots(with(text + "seed 1;"), 1, 2, 1, 3, 3, 1);
        firstLots(with("seed 9999;" + text), 1, 3, 4, 1, 4, 4);
        firstLots(with("seed 9999;seed 0;" + text + "seed 1;"), 1, 2, 1, 3, 3, 1);
        fault("seed 10000;", 1, 5);
    }

    private static void firstLots(RopeDance x, int... due) {
        for (int i = 0; i < due.length; i++) {
            x.let(0);
            x.minutes(1);
            is("the FIGURE of minute " + i, x.square(0, 0), due[i]);
        }
    }

    private static void placesOfFaults() {
        terms("of one place the least:");
        // the 401st TOKEN, with which no text goes on
        fault("pays=1" + times(198, "+1") + ";1", 1, 403);
        fault("pays=1" + times(198, "+1") + ";seed", 2, 403);
        // TWICE and KNOT at one NAME
        fault("square a;square a back 9 back 2 turn twist 9;", 3, 16);
        fault("figure a;square a twist 100;", 3, 16);
    }

    private static void syntax() {
        terms("1 SYNTAX: a TOKEN, or what is none, with which no text goes on.");
        fault("square a;b", 1, 9);
        fault("square a;?", 1, 9);
        fault("square a twist ?;", 1, 15);
        fault("square abcdefghi", 1, 7);
        fault("square a; square ; square b", 1, 17);
        // the first by its place, whatever comes behind it
        fault("square a turn 3 " + times(20, "turn "), 1, 14);
        fault("pays 1" + times(500, "+1"), 1, 5);
        fault("? square a twist 0; square a;", 1, 0);
    }

    /** A text of so many TOKENS that has no FAULT. */
    private static String tokens(int n) {
        int fours = n % 3;
        return times(fours, "pays=1;") + times((n - 4 * fours) / 3, "seed 1;");
    }

    private static void tokenRoom() {
        terms("2 ROOM: a 401st TOKEN;");
        noFault(tokens(399));
        noFault(tokens(400));
        noFault(tokens(400) + " \n ");
        noFault("pays=1" + times(198, "+1") + ";");
        fault("pays=1" + times(198, "+1") + ";pays=1;", 2, 403);
        // all 400 of them are looked at
        String text = "seed 1;square a;pays=5" + times(97, "+1-1") + "+2";
        is("PAYS of 400 TOKENS", with(text + ";").square(0, 6), 7);
        fault(text + "+0;", 2, text.length() + 1);
        text = "seed 1;square a;pays=" + times(4, "if 2<1 then 3 else ") + "5" + times(90, "+1-1") + "+2";
        is("PAYS of 400 TOKENS and ifs", with(text + ";").square(0, 6), 7);
        fault(text + "+0;", 2, text.length() + 1);
        for (String tell : TELLS) {
            String[] parts = tell.split(" ");
            StringBuilder begun = new StringBuilder();
            for (int i = 0; i < parts.length; i++) {
                // i of its TOKENS come to 400 with those ahead of it, and the next one is the 401st
                String full = tokens(400 - i) + begun;
                fault(full + parts[i], 2, full.length());
                fault(full + parts[i] + " seed 1;", 2, full.length());
                fault(full + "?", 1, full.length());
                fault(full + "abcdefghi", 1, full.length());
                fault(full, i == 0 ? 0 : 1, i == 0 ? -1 : full.length());
                begun.append(parts[i]).append(' ');
            }
            noFault(tokens(400 - parts.length) + tell);
            String oneMore = tokens(401 - parts.length) + tell;
            fault(oneMore, 2, oneMore.length() - 1);
        }
    }

    private static void roomOfSorts() {
        terms("one more of a sort than told (at its first TOKEN; a MOVE, too);");
        noFault(FOUR_SQUARES);
        fault(FOUR_SQUARES + "square e;", 2, 36);
        fault(FOUR_SQUARES + " \tsquare", 2, 38);
        fault(FOUR_SQUARES + FIVE_FIGURES + "square", 2, 81);
        fault(FOUR_SQUARES + "square ?", 2, 36);
        noFault(FIVE_FIGURES);
        fault(FIVE_FIGURES + "figure j;", 2, 45);
        fault(FIVE_FIGURES + FOUR_SQUARES + "figure", 2, 81);
        String[] moves = {"turn", "twist 3", "back 3"};
        for (String move : moves) {
            for (String word : new String[] {"square", "figure"}) {
                String eight = word + " a turn turn turn turn turn turn turn turn ";
                noFault(eight + ";");
                fault(eight + move + ";", 2, eight.length());
                fault(eight + move.substring(0, 4), move.startsWith("twis") ? 1 : 2, eight.length());
                fault(eight + move, 2, eight.length());
            }
        }
        // as many LAWS and SEEDS as there are TOKENS for
        noFault(times(100, "tires=1;"));
        noFault(times(133, "seed 1;"));
    }

    private static void roomOfLaws() {
        terms("a 5th if of a LAW (at it);");
        String four = "if 1<2 then 3 else if 1<2 then 3 else if 1<2 then 3 else if 1<2 then 3 else ";
        for (String law : LAWS) {
            noFault(law + "=" + four + "4;");
            fault(law + "=" + four + "if 1<2 then 3 else 4;", 2, law.length() + 1 + four.length());
            fault(law + "=" + four + "if", 2, law.length() + 1 + four.length());
        }
        noFault("pays=" + four + "4;rests=" + four + "4;pays=" + four + "4;");
        terms("a 7th ( within one another (at it).");
        String six = "((((((1))))))";
        String seven = "(((((((1)))))))";
        noFault("pays=" + six + "+" + six + "*" + six + ";");
        fault("pays=" + seven + ";", 2, 11);
        fault("pays=(((((((", 2, 11);
        fault("pays=" + six + "-" + seven + ";", 2, 19 + 6);
        noFault("pays=if " + six + "<" + six + "then " + six + "else " + six + ";");
        fault("pays=if " + seven + "<" + six + "then " + six + "else " + six + ";", 2, 8 + 6);
        fault("pays=if " + six + "<" + seven + "then " + six + "else " + six + ";", 2, 8 + 14 + 6);
        fault("pays=if " + six + "<" + six + "then " + seven + "else " + six + ";", 2, 8 + 14 + 18 + 6);
        fault("pays=if " + six + "<" + six + "then " + six + "else " + seven + ";", 2, 8 + 14 + 18 + 18 + 6);
        // closed ones do not count
        noFault("pays=(1)+(2)+(3)+(4)+(5)+(6)+(7)+(8)+((9));");
        noFault("pays=(((((1)+(2))+(3))+(4))+(5))+(6)+(7);");
        fault("pays=(1+(1+(1+(1+(1+(1+(1)))))));", 2, 23);
        noFault("pays=(1+(1+(1+(1+(1+(1+1))))));");
    }

    private static void twice() {
        terms("If there is none, likewise:");
        // what is TWICE, WRONG or a KNOT counts only in a text without SYNTAX and ROOM, be they far behind
        fault("square a;square a;?", 1, 18);
        fault("square a twist 0;seed", 1, 21);
        fault("square a twist 100;square", 1, 25);
        fault("square a;square a;square c;square d;square e;", 2, 36);
        fault("square a twist 0;pays=(((((((", 2, 28);
        fault("square a twist 100;figure f" + times(9, " turn") + ";", 2, 68);
        // and then the first by its place
        fault("square a twist 0;square a;square b twist 100;", 5, 15);
        fault("square b twist 100;square a twist 0;square a;", 6, 7);
        fault("figure a;figure a;square b twist 100;square c twist 0;", 3, 16);
        fault("square a twist 0 back 0;", 5, 15);
        fault("square b twist 100;square c twist 100;", 6, 7);
        terms("3 TWICE: a NAME told already (of SQUARES and FIGURES together).");
        fault("square a;square a;", 3, 16);
        fault("figure a;figure a;", 3, 16);
        fault("square a;figure a;", 3, 16);
        fault("figure a;square a;", 3, 16);
        fault("square a;square b;square c;square a;", 3, 34);
        fault("figure i;" + FOUR_SQUARES + "figure d;", 3, 9 + 36 + 7);
        fault(FOUR_SQUARES + FIVE_FIGURES.replace(" i", " e"), 3, 36 + 36 + 7);
        fault("square a;square a;square a;", 3, 16);
        noFault("square a;square aa;figure aaa;figure b;");
        noFault("square a;seed 1;seed 1;pays=1;pays=1;");
    }

    private static void wrong() {
        terms("5 WRONG (at the INT): a number not as told above.");
        String[] wrongOnes = {"0", "00", "0000", "10", "0010", "11", "99"};
        for (String one : wrongOnes) {
            fault("square a twist " + one + ";", 5, 15);
            fault("square a turn turn back  " + one + " turn;", 5, 25);
            fault("figure a twist " + one + ";", 5, 15);
            fault("figure a back " + one + ";", 5, 14);
        }
        fault("figure a twist 9999;", 5, 15);
        fault("figure a back 1 twist 1 back 100;", 5, 29);
        // numbers of a SEED and of a LAW have no such bounds
        noFault("seed 0;seed 9999;pays=0;pays=9999;rests=10;");
    }

    private static void knots() {
        terms("6 KNOT (at a SQUARE's NAME): its TANGLE can not be made (an INT that is WRONG taken as it stands).");
        tangle(with("square a twist 9 turn back 1 turn twist 9;"), 0, 99, 10);
        tangle(with("square a back 9 turn twist 1 turn back 9;"), 0, -99, 10);
        fault("square a back 9 back 2 turn twist 9;", 6, 7);
        fault("square a twist 9 twist 2 turn back 9;", 6, 7);
        fault("square a back 9 back 2 turn twist 9 back 9;", 6, 7);
        fault("square  b  twist 9 turn twist 9 turn twist 9 turn turn;", 6, 8);
        noFault("figure a back 9 back 2 turn twist 9;");
        fault("square a twist 99;", 5, 15);
        fault("square a twist 100;", 6, 7);
        fault("square a back 99;", 5, 14);
        fault("square a back 100;", 6, 7);
        fault("square a twist 9999;", 6, 7);
        fault("square a twist 100 back 100;", 6, 7);
        fault("square a turn twist 9999;", 5, 20);
        fault("square a twist 60 turn turn twist 40;", 6, 7);
        fault("square a twist 60 turn turn twist 39;", 5, 15);
        noFault("square a turn twist 9 twist 9 back 9;");
        // each of them out of 0 / 1
        String far = " twist 9 twist 9 twist 9 twist 9 twist 9 twist 9 twist 9 twist 9;";
        noFault("square a" + far + "square b" + far + "square c" + far + "square d" + far);
    }

    private static RopeDance dancing() {
        RopeDance x = with("square a twist 3;square b turn;figure f twist 1;tires=7;rests=6;pays=5;slips=4;seed 3;");
        x.call(0, 0);
        x.minutes(2);
        x.move(1, 2, 0);
        x.hold(1);
        x.tell(1, 0, true);
        return x;
    }

    private static void textsWithFault() {
        terms("A text with a FAULT changes nothing but the tape;");
        String[] texts = {"square z; square", FOUR_SQUARES + "square e;", "square z; figure z;", "square z twist 0;",
            "square z twist 100;", "seed 9; tires = 1; rests = 1; pays = 1; slips = 1; figure q; ;"};
        int[] faults = {1, 2, 3, 5, 6, 1};
        for (int i = 0; i < texts.length; i++) {
            RopeDance x = dancing();
            RopeDance same = dancing();
            put(x, texts[i]);
            is("read of " + texts[i], x.read(), faults[i]);
            is("the tape", x.count(8), 0);
            for (int what = 0; what < 14; what++) {
                is("count(" + what + ") behind " + texts[i], x.count(what), same.count(what));
            }
            for (int what = 0; what < 9; what++) {
                is("square(0, " + what + ") behind " + texts[i], x.square(0, what), same.square(0, what));
                is("square(1, " + what + ") behind " + texts[i], x.square(1, what), same.square(1, what));
            }
            is("figure(0, 4)", x.figure(0, 4), 1);
            is("figure(0, 1)", x.figure(0, 1), 1);
            is("tires(0, 0)", x.tires(0, 0), 7);
            is("rows(1, 0, 1, 0)", x.rows(1, 0, 1, 0), same.rows(1, 0, 1, 0));
            is("then(0, 9, 0)", x.then(0, 9, 0), same.then(0, 9, 0));
            is("undo", x.undo(), true);
            tangle(x, 1, 1, 0);
            is("restore", x.restore(1), true);
            tangle(x, 1, 0, 1);
        }
    }

    private static void textsInPlace() {
        terms("else it is in place of the one ahead: minute 0, nobody tired, nothing paid, nothing called;"
            + " nothing can be undone, nothing is TOLD, SLOTS hold nothing.");
        String[] texts = {"", "square a twist 3;square b turn;figure f twist 1;", "figure g;figure h;square c;"};
        for (String text : texts) {
            RopeDance x = dancing();
            x.hold(0);
            x.hold(2);
            put(x, text);
            is("read of " + text, x.read(), 0);
            is("minute", x.count(2), 0);
            is("paid", x.count(3), 0);
            is("tired", x.count(6), 0);
            is("called", x.count(7), 0);
            is("things done", x.count(9), 0);
            is("undo", x.undo(), false);
            is("TOLD", x.count(10), 0);
            is("forget", x.forget(), 0);
            is("SLOTS", x.count(11), 0);
            for (int slot = 0; slot < 3; slot++) {
                is("restore(" + slot + ")", x.restore(slot), false);
            }
            is("SQUARES", x.count(0), text.isEmpty() ? 0 : text.startsWith("square") ? 2 : 1);
            is("FIGURES", x.count(1), text.isEmpty() ? 0 : text.startsWith("square") ? 1 : 2);
            is("LAWS of the one ahead", x.square(0, 5), text.isEmpty() ? -1000 : 1);
            is("FIGURES of the one ahead", x.figure(0, 4), text.isEmpty() ? -1000000000 : text.startsWith("square") ? 1 : 0);
            is("a SQUARE of the one ahead", x.square(1, 1), text.startsWith("square") ? 0 : -1000);
        }
        RopeDance x = dancing();
        put(x, "square a twist 3;square b turn;figure f twist 1;");
        x.read();
        tangle(x, 0, 3, 1);
        tangle(x, 1, 1, 0);
        manyTexts();
    }

    /** What a text tells is all there is, whatever those ahead of it told, be they right or with a FAULT. */
    private static void manyTexts() {
        RopeDance x = new RopeDance();
        String[] faulty = {"pays=1+(2*(3-", "pays=((((((1", "square a twist 9 twist 9;figure a", "square a;square b;square",
            "square a twist 100;", "pays=if 1<2 then 3 else if"};
        for (int i = 0; i < 12; i++) {
            put(x, "square a twist 4;square b twist 8;figure f back 1;figure g turn;seed " + (5 + i) + ";tires=2;rests=3;pays="
                + "1+2*(3-over)" + times(20 + i, "+0") + ";slips=60;");
            is("read of the long one", x.read(), 0);
            is("SQUARES", x.count(0), 2);
            is("FIGURES", x.count(1), 2);
            is("PAYS", x.square(0, 6), 0);
            is("SLIPS", x.square(0, 7), 60);
            is("MOVES", x.figure(0, 4), 1);
            is("PLAN", x.plan(0, -1), 4);
            put(x, faulty[i % 6]);
            is("read of " + faulty[i % 6], x.read() > 0, true);
            is("PAYS still", x.square(0, 6), 0);
            is("FIGURES still", x.count(1), 2);
            is("PLAN still", x.plan(0, -1), 4);
            put(x, "square a twist 4;figure b back 2;pays=1+2*(3-over)+(8);");
            is("read of the short one", x.read(), 0);
            is("SQUARES", x.count(0), 1);
            is("FIGURES", x.count(1), 1);
            tangle(x, 0, 4, 1);
            is("MOVES", x.figure(0, 4), 1);
            is("TABLE", x.figure(0, 1), -2);
            is("TIRES", x.tires(0, 0), 1);
            is("RESTS", x.square(0, 5), 1);
            is("PAYS", x.square(0, 6), 7);
            is("SLIPS", x.square(0, 7), 0);
            is("PLAN", x.plan(0, -1), 2);
            is("REACH", x.reach(0), 52);
            x.minutes(1);
            is("it does not slip", x.square(0, 0), 2);
            put(x, "square a;figure f twist 1;figure g twist 2;figure h twist 3;figure i twist 4;figure j twist 5;");
            is("read of the one without a SEED", x.read(), 0);
            // the LOTS of 5 by SEED 0, one more
            firstLots(x, 2, 3, 4);
        }
        x = new RopeDance();
        for (int i = 0; i < 4; i++) {
            for (int texts = 0; texts < 4; texts++) {
                // two texts that tell one LAW, two that tell the next one
                int told = (i + texts / 2) % 4;
                put(x, "square a twist 5;figure f turn;" + LAWS[told] + "=60+7;");
                x.read();
                int[] due = {1, 1, 5, 0};
                due[told] = 67;
                is("TIRES, told alone: " + LAWS[told], x.tires(0, 0), due[0]);
                for (int what = 1; what < 4; what++) {
                    is("LAW " + what + ", told alone: " + LAWS[told], x.square(0, 4 + what), due[what]);
                }
            }
        }
        x = new RopeDance();
        for (int i = 0; i < 12; i++) {
            put(x, "pays=((((((1");
            is("read of the open one", x.read(), 1);
        }
        put(x, "square a;pays=2*(3+4*(5-1));");
        is("read of the closed one", x.read(), 0);
        is("PAYS", x.square(0, 6), 38);
    }

    private static void newObject() {
        promise(1, "No SQUARES, no FIGURES.");
        RopeDance x = new RopeDance();
        for (int what = 0; what < 14; what++) {
            is("count(" + what + ")", x.count(what), 0);
        }
        for (int i = -1; i <= 5; i++) {
            is("square(" + i + ", 0)", x.square(i, 0), -1000);
            is("figure(" + i + ", 4)", x.figure(i, 4), -1000000000);
            is("least(" + i + ")", x.least(i), -1);
            is("order(" + i + ")", x.order(i), -1);
        }
        is("undo", x.undo(), false);
        is("restore", x.restore(0), false);
        is("minutes", x.minutes(60), 60);
        is("paid by nobody", x.count(3), 0);
    }

    private static void feeding() {
        promise(2, "Twenty bytes, the highest of a first, come behind the tape: how many it has.");
        RopeDance x = new RopeDance();
        // "square abcdefgh;seed" and " 12; figure k turn; "
        is("feed", x.feed(0x73717561, 0x72652061, 0x62636465, 0x6667683b, 0x73656564), 20);
        is("feed", x.feed(0x2031323b, 0x20666967, 0x75726520, 0x6b207475, 0x726e3b20), 40);
        is("read", x.read(), 0);
        is("SQUARES", x.count(0), 1);
        is("FIGURES", x.count(1), 1);
        is("a turn", x.figure(0, 2), -1);
        // the first byte of all 0, and the highest of each
        int[] places = {0, 4, 8, 12, 16};
        for (int i = 0; i < 5; i++) {
            int[] five = {0x20202020, 0x20202020, 0x20202020, 0x20202020, 0x20202020};
            five[i] = 0xff202020;
            x.feed(five[0], five[1], five[2], five[3], five[4]);
            is("read", x.read(), 1);
            is("the highest byte of " + i, x.place(), places[i]);
            five[i] = 0x202020ff;
            x.feed(five[0], five[1], five[2], five[3], five[4]);
            is("read", x.read(), 1);
            is("the lowest byte of " + i, x.place(), places[i] + 3);
        }
        promise(2, "NONE, and nothing comes, if it would have more than 2,000.");
        x = new RopeDance();
        for (int i = 1; i <= 100; i++) {
            is("feed", x.feed(LEAST, GREATEST, -1, 0, 1), 20 * i);
        }
        is("feed to a full tape", x.feed(0, 0, 0, 0, 0), -1);
        is("bytes", x.count(8), 2000);
        for (int n = 1; n < 20; n++) {
            x.back(1);
            is("feed to " + (2000 - n), x.feed(0, 0, 0, 0, 0), -1);
            is("bytes", x.count(8), 2000 - n);
        }
        x.back(1);
        is("feed to 1980", x.feed(0, 0, 0, 0, 0), 2000);
        x.read();
        is("feed to an empty tape", x.feed(0, 0, 0, 0, 0), 20);
    }

    private static void takingBack() {
        promise(3, "The last n bytes of the tape go: how many it has.");
        RopeDance x = new RopeDance();
        is("back(0) of an empty tape", x.back(0), 0);
        put(x, "square a;square b;");
        is("back(0)", x.back(0), 18);
        is("back(1)", x.back(1), 17);
        is("back(8)", x.back(8), 9);
        is("read of the first ones", x.read(), 0);
        is("SQUARES", x.count(0), 1);
        put(x, "square a");
        is("back of all", x.back(8), 0);
        is("read of none", x.read(), 0);
        put(x, times(100, "square a;  square b;"));
        is("back of a full tape", x.back(2000), 0);
        promise(3, "NONE, and nothing goes, if it has not so many, or n is below 0.");
        x = new RopeDance();
        is("back(1) of an empty tape", x.back(1), -1);
        x.feed(0, 0, 0, 0, 0);
        int[] others = {21, 22, 2000, 2001, GREATEST, -1, -20, -21, LEAST};
        for (int n : others) {
            is("back(" + n + ")", x.back(n), -1);
            is("bytes", x.count(8), 20);
        }
        is("back(20)", x.back(20), 0);
        is("back(1)", x.back(1), -1);
    }

    private static void reading() {
        promise(4, "The tape, which is empty then, is read: 0, or the number of its FAULT.");
        RopeDance x = new RopeDance();
        is("read of an empty tape", x.read(), 0);
        String[] texts = {"square a;", "square", FOUR_SQUARES + "square e;", "square a;square a;", "square a twist 0;",
            "square a twist 100;", ""};
        int[] due = {0, 1, 2, 3, 5, 6, 0};
        for (int i = 0; i < texts.length; i++) {
            put(x, texts[i]);
            is("read of " + texts[i], x.read(), due[i]);
            is("the tape behind " + texts[i], x.count(8), 0);
            is("back of the tape behind " + texts[i], x.back(1), -1);
        }
        is("read again", x.read(), 0);
    }

    private static void placing() {
        promise(5, "The byte of the latest read()'s FAULT; NONE without.");
        RopeDance x = new RopeDance();
        is("ahead of any read", x.place(), -1);
        put(x, "?");
        is("not read yet", x.place(), -1);
        x.read();
        is("the first byte", x.place(), 0);
        put(x, "square");
        is("of the latest one", x.place(), 0);
        x.read();
        is("the end", x.place(), 6);
        is("again", x.place(), 6);
        x.read();
        is("of an empty tape", x.place(), -1);
        put(x, times(1999, " ") + "?");
        x.read();
        is("the last byte", x.place(), 1999);
    }
}
