/** Squares of dancers whose two ropes are twisted and turned by called figures into tangles, told as fractions. */
public final class RopeDance {
    public static final int NONE = -1;

    private static final int NOT_ANY = -2;
    private static final int NO_NUMBER = -1000;
    private static final int NO_TABLE = -1000000000;
    private static final int MOST_MINUTES = 60;
    private static final int MOST_SEEDS = 20;
    private static final int MOST_TIMES = 1000000000;
    private static final int LEAST_DIVISOR = 2;
    private static final int MOST_DIVISOR = 97;

    private final Tape tape;
    private final Reader reader;
    private Text text;
    private Text draft;
    private final Evening now;
    private final Memory memory;
    private final Told told;
    private final Square tried;
    private final Table oneTable;
    private final Table otherTable;
    private Search search;
    private Unwinding unwinding;

    public RopeDance() {
        tape = new Tape();
        text = new Text();
        draft = new Text();
        reader = new Reader(tape, draft);
        now = new Evening();
        memory = new Memory();
        told = new Told();
        tried = new Square();
        oneTable = new Table();
        otherTable = new Table();
    }

    public int feed(int a, int b, int c, int d, int e) {
        if (!tape.hasRoom(20)) {
            return NONE;
        }
        tape.append(a);
        tape.append(b);
        tape.append(c);
        tape.append(d);
        tape.append(e);
        return tape.length;
    }

    public int back(int n) {
        if (n < 0 || n > tape.length) {
            return NONE;
        }
        tape.length -= n;
        return tape.length;
    }

    public int read() {
        reader.readInto(draft);
        tape.length = 0;
        if (reader.fault == 0) {
            takeDraft();
        }
        return reader.fault;
    }

    public int place() {
        return reader.place;
    }

    public int square(int square, int what) {
        Square s = squareAt(square);
        if (s == null) {
            return NO_NUMBER;
        }
        switch (what) {
            case 0: return s.p;
            case 1: return s.q;
            case 2: return s.crossings();
            case 3: return s.ends();
            case 4: return s.tired;
            case 5: return text.worth(Text.RESTS, s, square, now.minute, 0);
            case 6: return text.worth(Text.PAYS, s, square, now.minute, 0);
            case 7: return text.worth(Text.SLIPS, s, square, now.minute, 0);
            case 8: return s.called;
            default: return NO_NUMBER;
        }
    }

    public int figure(int figure, int what) {
        Row row = figureAt(figure);
        if (row == null || what < 0 || what > 4) {
            return NO_TABLE;
        }
        return what == 4 ? row.length : row.table.sign() * row.table.part(what);
    }

    public int tires(int square, int figure) {
        Square s = squareAt(square);
        Row row = figureAt(figure);
        if (s == null || row == null) {
            return NONE;
        }
        return text.worth(Text.TIRES, s, square, now.minute, row.length);
    }

    public int after(int square, int figure, int what) {
        Square s = squareAt(square);
        Row row = figureAt(figure);
        if (s == null || row == null || what < 0 || what > 1) {
            return NO_NUMBER;
        }
        tried.takeTangle(s);
        if (!row.makes(tried, row.length)) {
            return NO_NUMBER;
        }
        return what == 0 ? tried.p : tried.q;
    }

    public int call(int square, int figure) {
        Square s = squareAt(square);
        Row row = figureAt(figure);
        if (s == null || row == null) {
            return NONE;
        }
        tried.takeTangle(s);
        if (!row.makes(tried, row.length)) {
            return NONE;
        }
        memory.remember(now);
        text.calls(row, s, square, now.minute, row.length);
        return s.crossings();
    }

    public boolean move(int square, int what, int k) {
        Square s = squareAt(square);
        if (s == null || what < Row.TWIST || what > Row.TURN) {
            return false;
        }
        if (what != Row.TURN && (k < 1 || k > Row.MOST_TWISTS)) {
            return false;
        }
        tried.takeTangle(s);
        if (!tried.makes(what, k)) {
            return false;
        }
        memory.remember(now);
        s.takeTangle(tried);
        return true;
    }

    public boolean let(int square) {
        Square s = squareAt(square);
        if (s == null || s.isUndone()) {
            return false;
        }
        memory.remember(now);
        s.letGo();
        return true;
    }

    public int minutes(int n) {
        if (n < 0 || n > MOST_MINUTES) {
            return NONE;
        }
        if (n > 0) {
            memory.remember(now);
        }
        for (int i = 0; i < n; i++) {
            now.passMinute(text);
        }
        return now.minute;
    }

    public boolean undo() {
        return memory.takeBack(now);
    }

    public int least(int square) {
        Square s = squareAt(square);
        return s == null ? NONE : unwinding().fewest(s.p, s.q);
    }

    public int ways(int square) {
        Square s = squareAt(square);
        return s == null ? NONE : unwinding().howMany(s.p, s.q);
    }

    public int step(int square, int i) {
        Square s = squareAt(square);
        return s == null ? NO_NUMBER : unwinding().thing(s.p, s.q, i);
    }

    public int plan(int square, int i) {
        Square s = squareAt(square);
        if (s == null || i < NONE) {
            return NONE;
        }
        tried.letGo();
        return figuresTo(s, tried, i);
    }

    public int bring(int square, int other, int i) {
        Square s = squareAt(square);
        Square o = squareAt(other);
        if (s == null || o == null || square == other || i < NONE) {
            return NONE;
        }
        return figuresTo(s, o, i);
    }

    public int reach(int square) {
        Square s = squareAt(square);
        return s == null ? NONE : searchFrom(s).found;
    }

    public int alike(int square, int other) {
        Square s = squareAt(square);
        Square o = squareAt(other);
        if (s == null || o == null) {
            return NONE;
        }
        int p = s.closedP();
        int q = s.closedQ();
        int otherQ = o.closedQ();
        if (p != o.closedP()) {
            return 0;
        }
        return q == otherQ || (p > 0 && (q * otherQ - 1) % p == 0) ? 1 : 0;
    }

    public int closed(int square, int what) {
        Square s = squareAt(square);
        if (s == null) {
            return NONE;
        }
        switch (what) {
            case 0: return s.closedP();
            case 1: return s.closedQ();
            case 2: return s.ends() == 0 ? 2 : 1;
            default: return NONE;
        }
    }

    public int colours(int square, int n) {
        Square s = squareAt(square);
        if (s == null || !isDivisor(n)) {
            return NONE;
        }
        return n * greatest(n, s.closedP());
    }

    public int joined(int square, int other) {
        Square s = squareAt(square);
        Square o = squareAt(other);
        return s == null || o == null ? NONE : Math.abs(s.p * o.q + o.p * s.q);
    }

    public int order(int figure) {
        Row row = figureAt(figure);
        if (row == null) {
            return NONE;
        }
        if (row.table.isNothing()) {
            return 1;
        }
        // among tables of whole numbers with a * d - b * c = 1 only these come back at all
        switch (Math.abs(row.table.trace())) {
            case 0: return 2;
            case 1: return 3;
            default: return NOT_ANY;
        }
    }

    public int round(int figure, int m) {
        Row row = figureAt(figure);
        return row == null || !isDivisor(m) ? NONE : roundOf(row.table, m);
    }

    public int power(int figure, int n, int m, int what) {
        Row row = figureAt(figure);
        if (row == null || n < 0 || n > MOST_TIMES || !isDivisor(m) || what < 0 || what > 3) {
            return NONE;
        }
        otherTable.restsOf(row.table, m);
        oneTable.clear();
        for (int rest = n; rest > 0; rest >>= 1) {
            if ((rest & 1) == 1) {
                oneTable.become(oneTable, otherTable);
                oneTable.restsOf(oneTable, m);
            }
            otherTable.become(otherTable, otherTable);
            otherTable.restsOf(otherTable, m);
        }
        return oneTable.part(what);
    }

    public int stays(int figure, int what) {
        Row row = figureAt(figure);
        if (row == null || what < 0 || what > 2) {
            return NO_NUMBER;
        }
        int howMany = row.table.stay(tried);
        if (what == 0) {
            return howMany;
        }
        if (howMany == 0) {
            return NO_NUMBER;
        }
        return what == 1 ? tried.p : tried.q;
    }

    public int mind(int figure, int other) {
        Row row = figureAt(figure);
        Row otherRow = figureAt(other);
        if (row == null || otherRow == null) {
            return NONE;
        }
        oneTable.become(row.table, otherRow.table);
        otherTable.become(otherRow.table, row.table);
        return oneTable.isAsFractions(otherTable) ? 0 : 1;
    }

    public int reverse(int figure) {
        Row row = figureAt(figure);
        if (row == null) {
            return NONE;
        }
        for (int i = 0; i < text.figures; i++) {
            oneTable.become(row.table, text.figureRows[i].table);
            if (oneTable.isNothing()) {
                return i;
            }
        }
        return NOT_ANY;
    }

    public int hands(int figure, int ends) {
        Row row = figureAt(figure);
        return row == null || ends < 0 || ends > 2 ? NONE : row.table.endsOf(ends);
    }

    public int then(int square, int n, int what) {
        Square s = squareAt(square);
        if (s == null || n < 0 || n > MOST_MINUTES || what < 0 || what > 2) {
            return NO_NUMBER;
        }
        tryMinutes(s, square, n, text.seed);
        switch (what) {
            case 0: return tried.p;
            case 1: return tried.q;
            default: return tried.tired;
        }
    }

    public int year(int square, int n, int s) {
        Square from = squareAt(square);
        if (from == null || n < 0 || n > MOST_MINUTES || s < 1 || s > MOST_SEEDS) {
            return NONE;
        }
        int undone = 0;
        for (int i = 0; i < s; i++) {
            tryMinutes(from, square, n, text.seed + i);
            if (tried.isUndone()) {
                undone++;
            }
        }
        return undone;
    }

    public int tell(int i, int ends, boolean so) {
        return told.add(i, ends, so);
    }

    public int forget() {
        int were = told.length;
        told.length = 0;
        return were;
    }

    public int rows(int k, int square, int l, int what) {
        Square s = squareAt(square);
        if (s == null || !told.canHear(k, l) || what < 0 || what > 1) {
            return NONE;
        }
        told.hear(text, s, k, l);
        return what == 0 ? told.fitting : told.first;
    }

    public int listen(int k, int square, int l) {
        Square s = squareAt(square);
        if (s == null || !told.canHear(k, l)) {
            return NONE;
        }
        told.hear(text, s, k, l);
        return told.whereToListen(l);
    }

    public boolean hold(int slot) {
        return memory.keep(slot, now);
    }

    public boolean restore(int slot) {
        return memory.goOn(slot, now);
    }

    public int count(int what) {
        switch (what) {
            case 0: return text.squares;
            case 1: return text.figures;
            case 2: return now.minute;
            case 3: return now.paid;
            case 4: return allCrossings();
            case 5: return undoneSquares();
            case 6: return allTired();
            case 7: return allCalled();
            case 8: return tape.length;
            case 9: return memory.length;
            case 10: return told.length;
            case 11: return memory.heldSlots();
            case 12: return squaresOfEnds(0);
            case 13: return squaresOfEnds(2);
            default: return NONE;
        }
    }

    private void takeDraft() {
        Text ahead = text;
        text = draft;
        draft = ahead;
        now.begin(text);
        memory.clear();
        told.length = 0;
        if (search != null) {
            search.startAnew();
        }
    }

    private Square squareAt(int square) {
        return square >= 0 && square < text.squares ? now.squares[square] : null;
    }

    private Row figureAt(int figure) {
        return figure >= 0 && figure < text.figures ? text.figureRows[figure] : null;
    }

    private static boolean isDivisor(int m) {
        return m >= LEAST_DIVISOR && m <= MOST_DIVISOR;
    }

    private Unwinding unwinding() {
        if (unwinding == null) {
            unwinding = new Unwinding();
        }
        return unwinding;
    }

    private Search searchFrom(Square s) {
        if (search == null) {
            search = new Search();
        }
        search.spread(text, s);
        return search;
    }

    private int figuresTo(Square from, Square to, int i) {
        int goal = Search.number(to.p, to.q);
        Search spread = searchFrom(from);
        int length = spread.lengthTo(goal);
        if (length == NONE) {
            return NOT_ANY;
        }
        if (i == NONE) {
            return length;
        }
        return i < length ? spread.figureBeforeLast(goal, length - 1 - i) : NONE;
    }

    private int roundOf(Table table, int m) {
        oneTable.clear();
        for (int times = 1; times <= 1000000; times++) {
            oneTable.become(oneTable, table);
            oneTable.restsOf(oneTable, m);
            if (oneTable.isNothingBy(m)) {
                return times;
            }
        }
        return NONE;
    }

    private void tryMinutes(Square s, int number, int n, int seed) {
        tried.take(s);
        for (int i = 0; i < n; i++) {
            text.passMinute(tried, number, now.minute + i, seed);
        }
    }

    private int allCrossings() {
        int sum = 0;
        for (int i = 0; i < text.squares; i++) {
            sum += now.squares[i].crossings();
        }
        return sum;
    }

    private int undoneSquares() {
        int bits = 0;
        for (int i = 0; i < text.squares; i++) {
            if (now.squares[i].isUndone()) {
                bits |= 1 << i;
            }
        }
        return bits;
    }

    private int allTired() {
        int sum = 0;
        for (int i = 0; i < text.squares; i++) {
            sum += now.squares[i].tired;
        }
        return sum;
    }

    private int allCalled() {
        int sum = 0;
        for (int i = 0; i < text.squares; i++) {
            sum += now.squares[i].called;
        }
        return sum;
    }

    private int squaresOfEnds(int ends) {
        int bits = 0;
        for (int i = 0; i < text.squares; i++) {
            if (now.squares[i].ends() == ends) {
                bits |= 1 << i;
            }
        }
        return bits;
    }

    /** The greatest number that divides both, which are 0 or above (of 0 and n: n). */
    private static int greatest(int one, int other) {
        int a = one;
        int b = other;
        for (int i = 0; i < 100 && b != 0; i++) {
            int rest = a % b;
            a = b;
            b = rest;
        }
        return a;
    }

    /** The bytes fed so far, and the TOKENS that they are. */
    private static final class Tape {
        static final int MOST_BYTES = 2000;
        static final int MOST_TOKENS = 400;
        static final int MOST_LETTERS = 8;
        static final int MOST_DIGITS = 4;
        // the kinds 0 .. 21 are the words by their order here
        static final String WORDS =
            "square figure tires rests pays slips seed twist back turn if then else over under cross ends tired minute which moves called ";
        // the kinds from FIRST_SIGN on are the signs by their order here
        static final String SIGNS = ";=+-*/<()";
        static final int SQUARE = 0;
        static final int FIGURE = 1;
        static final int FIRST_LAW = 2;
        static final int LAST_LAW = 5;
        static final int SEED = 6;
        static final int TWIST = 7;
        static final int TURN = 9;
        static final int IF = 10;
        static final int THEN = 11;
        static final int ELSE = 12;
        static final int FIRST_VAR = 13;
        static final int LAST_VAR = 21;
        static final int NAME = 22;
        static final int INT = 23;
        static final int FIRST_SIGN = 24;
        static final int SEMICOLON = 24;
        static final int EQUALS = 25;
        static final int PLUS = 26;
        static final int TIMES = 28;
        static final int DIVIDE = 29;
        static final int LESS = 30;
        static final int OPEN = 31;
        static final int CLOSE = 32;
        static final int END = 33;
        static final int NO_TOKEN = 34;

        int length;
        // the TOKEN at hand
        int token;
        int kind;
        int place;
        int value;
        long name;
        private final byte[] bytes;
        private final int[] kinds;
        private final int[] places;
        private final int[] values;
        private final long[] names;

        Tape() {
            bytes = new byte[MOST_BYTES];
            kinds = new int[MOST_TOKENS + 1];
            places = new int[MOST_TOKENS + 1];
            values = new int[MOST_TOKENS + 1];
            names = new long[MOST_TOKENS + 1];
        }

        boolean hasRoom(int more) {
            return length + more <= MOST_BYTES;
        }

        void append(int four) {
            if (!hasRoom(4)) {
                return;
            }
            bytes[length] = (byte) (four >> 24);
            bytes[length + 1] = (byte) (four >> 16);
            bytes[length + 2] = (byte) (four >> 8);
            bytes[length + 3] = (byte) four;
            length += 4;
        }

        /** Finds the TOKENS, up to the one too many, or to what is none; the first is at hand then. */
        void scan() {
            int at = 0;
            for (int i = 0; i <= MOST_TOKENS; i++) {
                at = behindBlanks(at);
                places[i] = at;
                at = scanToken(i, at);
                if (kinds[i] == END || kinds[i] == NO_TOKEN) {
                    break;
                }
            }
            takeUp(0);
        }

        /** Puts a TOKEN at hand; nobody asks for one behind END or NO_TOKEN. */
        void takeUp(int which) {
            if (which < 0 || which > MOST_TOKENS) {
                return;
            }
            token = which;
            kind = kinds[which];
            place = places[which];
            value = values[which];
            name = names[which];
        }

        private int byteAt(int at) {
            return at >= 0 && at < length ? bytes[at] : 0;
        }

        private int behindBlanks(int from) {
            int at = from;
            while (at < length && isBlank(byteAt(at))) {
                at++;
            }
            return at;
        }

        private int scanToken(int which, int at) {
            if (at >= length) {
                kinds[which] = END;
                return at;
            }
            int one = byteAt(at);
            if (isLetter(one)) {
                return scanWord(which, at);
            }
            if (isDigit(one)) {
                return scanInt(which, at);
            }
            int sign = one > 0 ? SIGNS.indexOf((char) one) : -1;
            kinds[which] = sign < 0 ? NO_TOKEN : FIRST_SIGN + sign;
            return at + 1;
        }

        private int scanWord(int which, int from) {
            int at = from;
            long word = 0;
            while (at < length && isLetter(byteAt(at))) {
                word = withLetter(word, byteAt(at));
                at++;
            }
            names[which] = word;
            kinds[which] = at - from > MOST_LETTERS ? NO_TOKEN : kindOfWord(word);
            return at;
        }

        private int scanInt(int which, int from) {
            int at = from;
            int number = 0;
            while (at < length && isDigit(byteAt(at))) {
                number = number * 10 + byteAt(at) - '0';
                at++;
            }
            values[which] = number;
            kinds[which] = at - from > MOST_DIGITS ? NO_TOKEN : INT;
            return at;
        }

        private static int kindOfWord(long word) {
            int which = 0;
            long known = 0;
            for (int i = 0; i < WORDS.length(); i++) {
                char letter = WORDS.charAt(i);
                if (letter != ' ') {
                    known = withLetter(known, letter);
                } else if (known == word) {
                    return which;
                } else {
                    known = 0;
                    which++;
                }
            }
            return NAME;
        }

        /** Words of up to eight letters are unlike numbers so. */
        private static long withLetter(long word, int letter) {
            return word * 27 + (letter - 'a' + 1);
        }

        private static boolean isBlank(int one) {
            return one == 9 || one == 10 || one == 13 || one == 32;
        }

        private static boolean isLetter(int one) {
            return one >= 'a' && one <= 'z';
        }

        private static boolean isDigit(int one) {
            return one >= '0' && one <= '9';
        }
    }

    /** Reads a tape into a Text and finds the FAULT, if there is one. */
    private static final class Reader {
        static final int SYNTAX = 1;
        static final int ROOM = 2;
        static final int TWICE = 3;
        static final int WRONG = 5;
        static final int KNOT = 6;
        static final int MOST_IFS = 4;
        static final int MOST_OPEN = 6;

        int fault;
        int place;
        private final Tape tape;
        private Text text;
        // a FAULT that counts only if there is no SYNTAX and no ROOM in the whole text
        private int doubt;
        private int doubtPlace;
        // signs of an E that wait for what is on their right, and brackets that are open
        private final int[] waiting;
        private int waits;
        private int open;
        private final Square made;

        Reader(Tape from, Text into) {
            tape = from;
            text = into;
            waiting = new int[32];
            made = new Square();
            place = NONE;
        }

        void readInto(Text into) {
            text = into;
            fault = 0;
            place = NONE;
            doubt = 0;
            doubtPlace = NONE;
            text.clear();
            tape.scan();
            for (int i = 0; i <= Tape.MOST_TOKENS && fault == 0 && tape.kind != Tape.END; i++) {
                readTell(tape.kind);
            }
            if (fault == 0) {
                fault = doubt;
                place = doubtPlace;
            }
        }

        private void fail(int number) {
            if (fault == 0) {
                fault = number;
                place = tape.place;
            }
        }

        private void suspect(int number, int where) {
            if (doubt == 0 || where < doubtPlace || (where == doubtPlace && number < doubt)) {
                doubt = number;
                doubtPlace = where;
            }
        }

        private boolean isAt(int kind) {
            return fault == 0 && tape.kind == kind;
        }

        /** Goes on behind a TOKEN of this kind; all else is a FAULT. */
        private void take(int kind) {
            if (!isAt(kind)) {
                fail(SYNTAX);
            } else if (tape.token >= Tape.MOST_TOKENS) {
                fail(ROOM);
            } else {
                tape.takeUp(tape.token + 1);
            }
        }

        private void readTell(int kind) {
            if (kind == Tape.SQUARE) {
                readRow(kind, text.nextSquare());
            } else if (kind == Tape.FIGURE) {
                readRow(kind, text.nextFigure());
            } else if (kind >= Tape.FIRST_LAW && kind <= Tape.LAST_LAW) {
                readLaw(kind);
            } else if (kind == Tape.SEED) {
                readSeed();
            } else {
                fail(SYNTAX);
            }
        }

        private void readRow(int word, Row row) {
            if (row == null) {
                fail(ROOM);
                return;
            }
            take(word);
            int namePlace = tape.place;
            long name = tape.name;
            take(Tape.NAME);
            for (int i = 0; i <= Row.MOST_MOVES && fault == 0 && isMove(tape.kind); i++) {
                readMove(row);
            }
            take(Tape.SEMICOLON);
            if (fault == 0) {
                suspectName(name, namePlace);
                made.letGo();
                if (word == Tape.SQUARE && !row.makes(made, row.length)) {
                    suspect(KNOT, namePlace);
                }
            }
        }

        private void suspectName(long name, int where) {
            if (text.isTold(name)) {
                suspect(TWICE, where);
            }
            text.addName(name);
        }

        private static boolean isMove(int kind) {
            return kind >= Tape.TWIST && kind <= Tape.TURN;
        }

        private void readMove(Row row) {
            int kind = tape.kind;
            int twists = 0;
            if (row.isFull()) {
                fail(ROOM);
                return;
            }
            take(kind);
            if (kind != Tape.TURN) {
                int where = tape.place;
                twists = tape.value;
                take(Tape.INT);
                if (twists < 1 || twists > Row.MOST_TWISTS) {
                    suspect(WRONG, where);
                }
            }
            row.add(kind - Tape.TWIST, twists);
        }

        private void readSeed() {
            take(Tape.SEED);
            text.seed = tape.value;
            take(Tape.INT);
            take(Tape.SEMICOLON);
        }

        private void readLaw(int word) {
            take(word);
            take(Tape.EQUALS);
            text.beginLaw(word - Tape.FIRST_LAW);
            for (int ifs = 0; ifs <= MOST_IFS && isAt(Tape.IF); ifs++) {
                if (ifs == MOST_IFS) {
                    fail(ROOM);
                    return;
                }
                take(Tape.IF);
                readSum();
                take(Tape.LESS);
                readSum();
                take(Tape.THEN);
                int target = text.addUnless();
                readSum();
                text.addCode(Text.GIVE);
                text.sendHere(target);
                take(Tape.ELSE);
            }
            readSum();
            text.addCode(Text.GIVE);
            take(Tape.SEMICOLON);
        }

        /** An E, its signs put behind what they work on; it ends ahead of what can not belong to it. */
        private void readSum() {
            boolean unitIsDue = true;
            waits = 0;
            open = 0;
            for (int i = 0; i <= Tape.MOST_TOKENS && fault == 0; i++) {
                int kind = tape.kind;
                if (unitIsDue) {
                    unitIsDue = kind == Tape.OPEN;
                    readUnit(kind);
                } else if (kind >= Tape.PLUS && kind <= Tape.DIVIDE) {
                    take(kind);
                    releaseDownTo(kind >= Tape.TIMES ? Tape.TIMES : Tape.PLUS);
                    addWaiting(kind);
                    unitIsDue = true;
                } else if (open > 0) {
                    take(Tape.CLOSE);
                    releaseDownTo(Tape.PLUS);
                    waits = Math.max(0, waits - 1);
                    open--;
                } else {
                    break;
                }
            }
            releaseDownTo(Tape.PLUS);
        }

        private void readUnit(int kind) {
            if (kind == Tape.OPEN) {
                if (open == MOST_OPEN) {
                    fail(ROOM);
                    return;
                }
                take(kind);
                addWaiting(kind);
                open++;
            } else if (kind >= Tape.FIRST_VAR && kind <= Tape.LAST_VAR) {
                text.addCode(Text.FIRST_VAR - (kind - Tape.FIRST_VAR));
                take(kind);
            } else {
                text.addCode(tape.value);
                take(Tape.INT);
            }
        }

        private void addWaiting(int kind) {
            if (waits < waiting.length) {
                waiting[waits] = kind;
                waits++;
            }
        }

        /** Signs that bind at least as fast as this one are due now; a bracket holds back what is ahead of it. */
        private void releaseDownTo(int kind) {
            for (int i = Math.min(waits, waiting.length) - 1; i >= 0; i--) {
                if (waiting[i] == Tape.OPEN || waiting[i] < kind) {
                    return;
                }
                text.addCode(Text.FIRST_SIGN - (waiting[i] - Tape.PLUS));
                waits = i;
            }
        }
    }

    /** What a text tells: SQUARES, FIGURES, LAWS and the SEED. */
    private static final class Text {
        static final int MOST_SQUARES = 4;
        static final int MOST_FIGURES = 5;
        static final int MOST_TIRED = 999;
        static final int TIRES = 0;
        static final int RESTS = 1;
        static final int PAYS = 2;
        static final int SLIPS = 3;
        static final int[] MOST_WORTH = {99, 99, 99, 100};
        // codes of a LAW: an INT is itself; all else is below 0
        static final int FIRST_VAR = -1;
        static final int CROSS = FIRST_VAR - 2;
        static final int MOVES = FIRST_VAR - 7;
        static final int VARS = 9;
        static final int FIRST_SIGN = -10;
        static final int MINUS = FIRST_SIGN - 1;
        static final int TIMES = FIRST_SIGN - 2;
        static final int DIVIDE = FIRST_SIGN - 3;
        static final int UNLESS = -14;
        static final int GIVE = -15;

        int squares;
        int figures;
        int seed;
        final Row[] squareRows;
        final Row[] figureRows;
        private int codes;
        private final long[] names;
        private int namesTold;
        private final int[] code;
        private final int[] lawStarts;
        private final int[] vars;
        private final int[] stack;
        private final Square tried;

        Text() {
            squareRows = new Row[MOST_SQUARES];
            for (int i = 0; i < MOST_SQUARES; i++) {
                squareRows[i] = new Row();
            }
            figureRows = new Row[MOST_FIGURES];
            for (int i = 0; i < MOST_FIGURES; i++) {
                figureRows[i] = new Row();
            }
            names = new long[MOST_SQUARES + MOST_FIGURES];
            code = new int[Tape.MOST_TOKENS + 8];
            lawStarts = new int[MOST_WORTH.length];
            vars = new int[VARS];
            stack = new int[32];
            tried = new Square();
            clear();
        }

        void clear() {
            squares = 0;
            figures = 0;
            seed = 0;
            namesTold = 0;
            codes = 0;
            addShortLaw(TIRES, MOVES);
            addShortLaw(RESTS, 1);
            addShortLaw(PAYS, CROSS);
            addShortLaw(SLIPS, 0);
        }

        private void addShortLaw(int law, int unit) {
            beginLaw(law);
            addCode(unit);
            addCode(GIVE);
        }

        /** The row of one more SQUARE, or null if there is no room for it. */
        Row nextSquare() {
            if (squares >= MOST_SQUARES) {
                return null;
            }
            Row row = squareRows[squares];
            row.clear();
            squares++;
            return row;
        }

        /** The row of one more FIGURE, or null if there is no room for it. */
        Row nextFigure() {
            if (figures >= MOST_FIGURES) {
                return null;
            }
            Row row = figureRows[figures];
            row.clear();
            figures++;
            return row;
        }

        boolean isTold(long name) {
            for (int i = 0; i < namesTold; i++) {
                if (names[i] == name) {
                    return true;
                }
            }
            return false;
        }

        void addName(long name) {
            if (namesTold < names.length) {
                names[namesTold] = name;
                namesTold++;
            }
        }

        void beginLaw(int law) {
            if (law >= 0 && law < lawStarts.length) {
                lawStarts[law] = codes;
            }
        }

        void addCode(int one) {
            if (codes < code.length) {
                code[codes] = one;
                codes++;
            }
        }

        /** Tells where the code stands that sendHere() must set, once it is known how far to go. */
        int addUnless() {
            addCode(UNLESS);
            addCode(0);
            return codes - 1;
        }

        void sendHere(int target) {
            if (target >= 0 && target < codes) {
                code[target] = codes;
            }
        }

        /** What a LAW comes to for a SQUARE, held to what it may be. */
        int worth(int law, Square s, int number, int minute, int moves) {
            if (law < 0 || law >= MOST_WORTH.length) {
                return 0;
            }
            vars[0] = Math.abs(s.p);
            vars[1] = s.q;
            vars[2] = s.crossings();
            vars[3] = s.ends();
            vars[4] = s.tired;
            vars[5] = minute;
            vars[6] = number;
            vars[7] = moves;
            vars[8] = s.called;
            return Math.max(0, Math.min(MOST_WORTH[law], run(lawStarts[law])));
        }

        private int run(int start) {
            int height = 0;
            for (int i = Math.max(0, start); i < codes; i++) {
                int one = code[i];
                if (one > FIRST_SIGN) {
                    if (height >= stack.length) {
                        return 0;
                    }
                    stack[height] = one >= 0 ? one : vars[FIRST_VAR - one];
                    height++;
                } else if (one == GIVE) {
                    return height > 0 ? stack[height - 1] : 0;
                } else {
                    if (height < 2) {
                        return 0;
                    }
                    int left = stack[height - 2];
                    int right = stack[height - 1];
                    if (one == UNLESS) {
                        height -= 2;
                        i = left < right ? i + 1 : jump(i);
                    } else {
                        if (one == DIVIDE && right == 0) {
                            return 0;
                        }
                        height--;
                        stack[height - 1] = work(one, left, right);
                    }
                }
            }
            return 0;
        }

        /** Where an UNLESS sends to, which is always further on, less the step that the loop takes itself. */
        private int jump(int at) {
            int target = at + 1 < codes ? code[at + 1] : codes;
            return Math.max(at + 1, target - 1);
        }

        private static int work(int sign, int left, int right) {
            switch (sign) {
                case FIRST_SIGN: return left + right;
                case MINUS: return left - right;
                case TIMES: return left * right;
                default: return right == 0 ? 0 : left / right;
            }
        }

        /** CALLS a FIGURE to a SQUARE, with so many of its MOVES, if they can be made. */
        boolean calls(Row figure, Square s, int number, int minute, int moves) {
            tried.takeTangle(s);
            if (!figure.makes(tried, moves)) {
                return false;
            }
            int more = worth(TIRES, s, number, minute, figure.length);
            s.takeTangle(tried);
            s.tired = Math.min(MOST_TIRED, s.tired + more);
            s.called++;
            return true;
        }

        /** A MINUTE of a SQUARE, but for what is paid. */
        void passMinute(Square s, int number, int minute, int bySeed) {
            int which = 8 * minute + number;
            if (figures > 0) {
                Row figure = figureRows[lot(figures, bySeed, which)];
                int moves = figure.length;
                if (lot(100, bySeed, 100000 + which) < worth(SLIPS, s, number, minute, 0)) {
                    moves = Math.max(0, moves - 1);
                }
                if (calls(figure, s, number, minute, moves)) {
                    return;
                }
            }
            s.tired = Math.max(0, s.tired - worth(RESTS, s, number, minute, 0));
        }

        private static int lot(int n, int bySeed, int which) {
            int h = mixed(mixed(bySeed, 209), which);
            return n > 0 ? (h >>> 1) % n : 0;
        }

        private static int mixed(int h, int with) {
            int next = (h ^ with) * 1103515245 + 12345;
            return next ^ (next >>> 15);
        }
    }

    /** MOVES one behind the other, and the TABLE that they give. */
    private static final class Row {
        static final int MOST_MOVES = 8;
        static final int MOST_TWISTS = 9;
        static final int TWIST = 0;
        static final int BACK = 1;
        static final int TURN = 2;

        int length;
        final Table table;
        private final int[] whats;
        private final int[] twists;

        Row() {
            table = new Table();
            whats = new int[MOST_MOVES];
            twists = new int[MOST_MOVES];
        }

        void clear() {
            length = 0;
            table.clear();
        }

        boolean isFull() {
            return length >= MOST_MOVES;
        }

        void add(int what, int k) {
            if (isFull()) {
                return;
            }
            whats[length] = what;
            twists[length] = k;
            length++;
            table.addMove(what, k);
        }

        /** Makes so many of the MOVES; if false is told, the SQUARE stands somewhere on the way. */
        boolean makes(Square s, int moves) {
            int most = Math.min(moves, length);
            for (int i = 0; i < most; i++) {
                if (!s.makes(whats[i], twists[i])) {
                    return false;
                }
            }
            return true;
        }
    }

    /** Four numbers that make (a * P + b * Q) / (c * P + d * Q) of P / Q, with a * d - b * c = 1. */
    private static final class Table {
        static final int ALL_TANGLES = 12016;

        int a;
        int b;
        int c;
        int d;

        Table() {
            a = 1;
            d = 1;
        }

        void clear() {
            a = 1;
            b = 0;
            c = 0;
            d = 1;
        }

        void addMove(int what, int k) {
            if (what == Row.TURN) {
                int oldA = a;
                int oldB = b;
                a = -c;
                b = -d;
                c = oldA;
                d = oldB;
            } else {
                int twists = what == Row.TWIST ? k : -k;
                a += twists * c;
                b += twists * d;
            }
        }

        /** Becomes what the first gives with the other one behind it; either may be this one. */
        void become(Table first, Table behind) {
            int newA = behind.a * first.a + behind.b * first.c;
            int newB = behind.a * first.b + behind.b * first.d;
            int newC = behind.c * first.a + behind.d * first.c;
            int newD = behind.c * first.b + behind.d * first.d;
            a = newA;
            b = newB;
            c = newC;
            d = newD;
        }

        void restsOf(Table of, int m) {
            if (m > 0) {
                a = Math.floorMod(of.a, m);
                b = Math.floorMod(of.b, m);
                c = Math.floorMod(of.c, m);
                d = Math.floorMod(of.d, m);
            }
        }

        int part(int what) {
            switch (what) {
                case 0: return a;
                case 1: return b;
                case 2: return c;
                default: return d;
            }
        }

        int trace() {
            return a + d;
        }

        /** The sign by which the first number that is not 0 comes above 0. */
        int sign() {
            return a > 0 || (a == 0 && b > 0) ? 1 : -1;
        }

        boolean isNothing() {
            return b == 0 && c == 0 && a == d;
        }

        boolean isNothingBy(int m) {
            return b == 0 && c == 0 && a == d && (a == 1 || a == m - 1);
        }

        boolean isAsFractions(Table other) {
            int s = sign() * other.sign();
            return a == s * other.a && b == s * other.b && c == s * other.c && d == s * other.d;
        }

        int endsOf(int ends) {
            int p = ends == 0 ? 0 : 1;
            int q = ends == 2 ? 0 : 1;
            return Square.endsOf(a * p + b * q, c * p + d * q);
        }

        /** How many TANGLES stay as they are; the first of them is put into the SQUARE. */
        int stay(Square first) {
            first.p = 1;
            first.q = 0;
            if (isNothing()) {
                return ALL_TANGLES;
            }
            // a fraction stays if c * P * P + (d - a) * P * Q = b * Q * Q: only with a trace of 2 or -2 is there one
            if (Math.abs(trace()) != 2) {
                return 0;
            }
            if (c == 0) {
                return 1;
            }
            int over = c > 0 ? a - d : d - a;
            int under = Math.abs(2 * c);
            int common = greatest(Math.abs(over), under);
            if (common == 0) {
                return 0;
            }
            first.p = over / common;
            first.q = under / common;
            return Square.isTangle(first.p) && Square.isTangle(first.q) ? 1 : 0;
        }
    }

    /** A SQUARE: its TANGLE, how tired it is, and how many FIGURES it was called. */
    private static final class Square {
        static final int MOST = 99;

        int p;
        int q;
        int tired;
        int called;

        Square() {
            q = 1;
        }

        static boolean isTangle(int part) {
            return part >= -MOST && part <= MOST;
        }

        static int endsOf(int p, int q) {
            if ((p & 1) == 0) {
                return 0;
            }
            return (q & 1) == 0 ? 2 : 1;
        }

        void take(Square from) {
            takeTangle(from);
            tired = from.tired;
            called = from.called;
        }

        void takeTangle(Square from) {
            p = from.p;
            q = from.q;
        }

        void letGo() {
            p = 0;
            q = 1;
        }

        boolean isUndone() {
            return p == 0;
        }

        boolean makes(int what, int k) {
            if (what == Row.TURN) {
                turn();
                return true;
            }
            int next = what == Row.TWIST ? p + k * q : p - k * q;
            if (!isTangle(next)) {
                return false;
            }
            p = next;
            return true;
        }

        private void turn() {
            int over = p;
            if (over < 0) {
                p = q;
                q = -over;
            } else if (over > 0) {
                p = -q;
                q = over;
            } else {
                p = 1;
                q = 0;
            }
        }

        int crossings() {
            int sum = 0;
            int over = Math.abs(p);
            int under = q;
            for (int i = 0; i < 100 && under != 0; i++) {
                sum += over / under;
                int rest = over % under;
                over = under;
                under = rest;
            }
            return sum;
        }

        int ends() {
            return endsOf(p, q);
        }

        int closedP() {
            return Math.abs(p);
        }

        int closedQ() {
            if (p == 0) {
                return 0;
            }
            return p < 0 ? Math.floorMod(-q, -p) : q % p;
        }
    }

    /** All that goes on: the SQUARES, the minute, what was paid. */
    private static final class Evening {
        static final int NUMBERS = 4 * Text.MOST_SQUARES + 2;

        final Square[] squares;
        int minute;
        int paid;

        Evening() {
            squares = new Square[Text.MOST_SQUARES];
            for (int i = 0; i < Text.MOST_SQUARES; i++) {
                squares[i] = new Square();
            }
        }

        void begin(Text text) {
            minute = 0;
            paid = 0;
            for (int i = 0; i < Text.MOST_SQUARES; i++) {
                squares[i].letGo();
                squares[i].tired = 0;
                squares[i].called = 0;
                if (i < text.squares) {
                    text.squareRows[i].makes(squares[i], Row.MOST_MOVES);
                }
            }
        }

        void passMinute(Text text) {
            for (int i = 0; i < text.squares; i++) {
                paid += text.worth(Text.PAYS, squares[i], i, minute, 0);
                text.passMinute(squares[i], i, minute, text.seed);
            }
            minute++;
        }

        void putInto(int[] numbers) {
            if (numbers.length < NUMBERS) {
                return;
            }
            for (int i = 0; i < Text.MOST_SQUARES; i++) {
                numbers[4 * i] = squares[i].p;
                numbers[4 * i + 1] = squares[i].q;
                numbers[4 * i + 2] = squares[i].tired;
                numbers[4 * i + 3] = squares[i].called;
            }
            numbers[NUMBERS - 2] = minute;
            numbers[NUMBERS - 1] = paid;
        }

        void takeFrom(int[] numbers) {
            if (numbers.length < NUMBERS) {
                return;
            }
            for (int i = 0; i < Text.MOST_SQUARES; i++) {
                squares[i].p = numbers[4 * i];
                squares[i].q = numbers[4 * i + 1];
                squares[i].tired = numbers[4 * i + 2];
                squares[i].called = numbers[4 * i + 3];
            }
            minute = numbers[NUMBERS - 2];
            paid = numbers[NUMBERS - 1];
        }
    }

    /** How it was ahead of the last things done, and what the SLOTS hold. */
    private static final class Memory {
        static final int MOST_DONE = 40;
        static final int SLOTS = 3;

        int length;
        private int next;
        private final int[][] ahead;
        private final int[][] slots;
        private final boolean[] held;

        Memory() {
            ahead = new int[MOST_DONE][Evening.NUMBERS];
            slots = new int[SLOTS][Evening.NUMBERS];
            held = new boolean[SLOTS];
        }

        void clear() {
            length = 0;
            for (int i = 0; i < SLOTS; i++) {
                held[i] = false;
            }
        }

        void remember(Evening now) {
            now.putInto(ahead[next]);
            next = (next + 1) % MOST_DONE;
            length = Math.min(MOST_DONE, length + 1);
        }

        boolean takeBack(Evening now) {
            if (length == 0) {
                return false;
            }
            next = (next + MOST_DONE - 1) % MOST_DONE;
            length--;
            now.takeFrom(ahead[next]);
            return true;
        }

        boolean keep(int slot, Evening now) {
            if (slot < 0 || slot >= SLOTS) {
                return false;
            }
            now.putInto(slots[slot]);
            held[slot] = true;
            return true;
        }

        boolean goOn(int slot, Evening now) {
            if (slot < 0 || slot >= SLOTS || !held[slot]) {
                return false;
            }
            now.takeFrom(slots[slot]);
            length = 0;
            return true;
        }

        int heldSlots() {
            int sum = 0;
            for (int i = 0; i < SLOTS; i++) {
                if (held[i]) {
                    sum++;
                }
            }
            return sum;
        }
    }

    /** All WAYS of undoing, by what is left once P is brought to R or to R less Q; a TANGLE and its mirror image need the same. */
    private static final class Unwinding {
        static final int TURN = 100;

        // by Q and R (0 .. Q less 1), what comes behind R / Q
        private final int[] fewestBehind;
        private final int[] waysBehind;

        Unwinding() {
            fewestBehind = new int[Square.MOST * (Square.MOST + 1) / 2];
            waysBehind = new int[Square.MOST * (Square.MOST + 1) / 2];
            for (int q = 1; q <= Square.MOST; q++) {
                // with R 0 nothing is left to do: 0 / 1
                waysBehind[at(q, 0)] = 1;
                for (int r = 1; r < q; r++) {
                    fewestBehind[at(q, r)] = 1 + fewest(q, r);
                    waysBehind[at(q, r)] = howMany(q, r);
                }
            }
        }

        private static int at(int q, int r) {
            return q >= 1 && q <= Square.MOST && r >= 0 && r < q ? q * (q - 1) / 2 + r : 0;
        }

        int fewest(int p, int q) {
            if (q < 1) {
                return 1;
            }
            int over = Math.abs(p);
            int r = over % q;
            int down = over / q + fewestBehind[at(q, r)];
            return r == 0 ? down : Math.min(down, over / q + 1 + fewestBehind[at(q, q - r)]);
        }

        int howMany(int p, int q) {
            if (q < 1) {
                return 1;
            }
            int r = Math.abs(p) % q;
            return r == 0 ? waysBehind[at(q, 0)] : waysBehind[at(q, r)] + waysBehind[at(q, q - r)];
        }

        /** The i-th thing of the WAY of fewest. */
        int thing(int p, int q, int i) {
            int over = p;
            int under = q;
            int ahead = i;
            for (int turns = 0; turns <= 100 && ahead >= 0; turns++) {
                int goal = goalOf(over, under);
                int twists = under == 0 ? 0 : (goal - over) / under;
                if (twists != 0) {
                    if (ahead == 0) {
                        return twists;
                    }
                    ahead--;
                }
                if (goal == 0) {
                    return NO_NUMBER;
                }
                if (ahead == 0) {
                    return TURN;
                }
                ahead--;
                over = goal > 0 ? -under : under;
                under = Math.abs(goal);
            }
            return NO_NUMBER;
        }

        /** The P that is brought about ahead of the next turn. */
        private int goalOf(int p, int q) {
            if (q < 1) {
                return p;
            }
            int r = Math.floorMod(p, q);
            if (r == 0) {
                return 0;
            }
            int low = Math.abs(p - r) / q + fewestBehind[at(q, r)];
            int high = Math.abs(p - r + q) / q + fewestBehind[at(q, q - r)];
            return low <= high ? r : r - q;
        }
    }

    /** All TANGLES that one can come to by FIGURES, each by the fewest FIGURES, of as few the lowest first. */
    private static final class Search {
        static final int NUMBERS = (2 * Square.MOST + 1) * (Square.MOST + 1);
        static final int START = -1;

        int found;
        private int start;
        private final int[] queue;
        // 0: not found; else START, or 8 times the number it was made of, the FIGURE, and 1
        private final int[] madeOf;
        private final Square tried;

        Search() {
            queue = new int[Table.ALL_TANGLES];
            madeOf = new int[NUMBERS];
            tried = new Square();
            start = NONE;
        }

        static int number(int p, int q) {
            boolean isOne = Square.isTangle(p) && q >= 0 && q <= Square.MOST;
            return isOne ? (p + Square.MOST) * (Square.MOST + 1) + q : 0;
        }

        void startAnew() {
            start = NONE;
        }

        void spread(Text text, Square from) {
            int number = number(from.p, from.q);
            if (number == start) {
                return;
            }
            start = number;
            forgetFound();
            add(number, START);
            for (int i = 0; i < found && i < queue.length; i++) {
                for (int figure = 0; figure < text.figures; figure++) {
                    Row row = text.figureRows[figure];
                    tried.p = queue[i] / (Square.MOST + 1) - Square.MOST;
                    tried.q = queue[i] % (Square.MOST + 1);
                    if (row.makes(tried, row.length)) {
                        add(number(tried.p, tried.q), queue[i] * 8 + figure + 1);
                    }
                }
            }
        }

        private void forgetFound() {
            for (int i = 0; i < found; i++) {
                madeOf[queue[i]] = 0;
            }
            found = 0;
        }

        private void add(int number, int of) {
            if (madeOf[number] == 0 && found < queue.length) {
                madeOf[number] = of;
                queue[found] = number;
                found++;
            }
        }

        /** How many FIGURES lead there, or NONE if none do. */
        int lengthTo(int goal) {
            if (madeOf[goal] == 0) {
                return NONE;
            }
            int length = 0;
            int at = goal;
            while (length < found && madeOf[at] != START) {
                at = (madeOf[at] - 1) / 8;
                length++;
            }
            return length;
        }

        /** The FIGURE that has so many behind it on the way there. */
        int figureBeforeLast(int goal, int behind) {
            int at = goal;
            for (int i = 0; i < behind && madeOf[at] > 0; i++) {
                at = (madeOf[at] - 1) / 8;
            }
            return madeOf[at] > 0 ? (madeOf[at] - 1) % 8 : NONE;
        }
    }

    /** What is TOLD, and the ROWS of FIGURES that FIT it. */
    private static final class Told {
        static final int MOST_TOLD = 20;
        static final int MOST_FIGURES = 4;

        int length;
        int fitting;
        int first;
        private final int[] behinds;
        private final int[] ends;
        private final boolean[] are;
        private final Square tried;
        private final int[] endsBehind;
        private final int[] tallies;

        Told() {
            behinds = new int[MOST_TOLD];
            ends = new int[MOST_TOLD];
            are = new boolean[MOST_TOLD];
            tried = new Square();
            endsBehind = new int[MOST_FIGURES];
            tallies = new int[3 * MOST_FIGURES];
        }

        int add(int i, int which, boolean so) {
            if (length >= MOST_TOLD || i < 1 || i > MOST_FIGURES || which < 0 || which > 2) {
                return NONE;
            }
            behinds[length] = i;
            ends[length] = which;
            are[length] = so;
            length++;
            return length - 1;
        }

        boolean canHear(int k, int l) {
            return k >= 0 && k <= length && l >= 1 && l <= MOST_FIGURES;
        }

        /** Goes through all ROWS of l FIGURES: how many FIT, the first, and the ENDS behind each. */
        void hear(Text text, Square from, int k, int l) {
            fitting = 0;
            first = NOT_ANY;
            for (int i = 0; i < tallies.length; i++) {
                tallies[i] = 0;
            }
            int weight = 1;
            for (int i = 1; i < l; i++) {
                weight *= text.figures;
            }
            for (int row = 0; row < weight * text.figures; row++) {
                if (canBeCalled(text, from, row, weight, l) && fits(k, l)) {
                    addFitting(row, l);
                }
            }
        }

        private boolean canBeCalled(Text text, Square from, int row, int firstWeight, int l) {
            int weight = firstWeight;
            tried.takeTangle(from);
            for (int i = 0; i < l && i < MOST_FIGURES && weight > 0 && text.figures > 0; i++) {
                Row figure = text.figureRows[row / weight % text.figures];
                if (!figure.makes(tried, figure.length)) {
                    return false;
                }
                endsBehind[i] = tried.ends();
                weight /= text.figures;
            }
            return true;
        }

        private boolean fits(int k, int l) {
            for (int i = 0; i < k && i < length; i++) {
                int behind = behinds[i];
                if (behind > l || (endsBehind[behind - 1] == ends[i]) != are[i]) {
                    return false;
                }
            }
            return true;
        }

        private void addFitting(int row, int l) {
            if (fitting == 0) {
                first = row;
            }
            fitting++;
            for (int i = 0; i < l && i < MOST_FIGURES; i++) {
                tallies[3 * i + endsBehind[i]]++;
            }
        }

        /** The i that leaves fewest at worst, by the tallies of the ROWS heard last. */
        int whereToListen(int l) {
            if (fitting == 0) {
                return NOT_ANY;
            }
            int best = NONE;
            int fewest = fitting + 1;
            for (int i = 0; i < l && i < MOST_FIGURES; i++) {
                int worst = Math.max(tallies[3 * i], Math.max(tallies[3 * i + 1], tallies[3 * i + 2]));
                if (worst < fewest) {
                    fewest = worst;
                    best = i + 1;
                }
            }
            return best;
        }
    }
}
