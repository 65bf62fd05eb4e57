import java.math.BigInteger;
import java.util.ArrayDeque;
import java.util.ArrayList;
import java.util.Arrays;
import java.util.Deque;
import java.util.HashMap;
import java.util.HashSet;
import java.util.List;
import java.util.Map;
import java.util.Set;
import java.util.TreeMap;

/** A second reading of the document, slow and plain, with trees, lists and all WAYS and ROWS written out. */
final class Model {
    static final Set<String> WORDS = new HashSet<>(Arrays.asList("square", "figure", "tires", "rests", "pays", "slips",
        "seed", "twist", "back", "turn", "if", "then", "else", "over", "under", "cross", "ends", "tired", "minute",
        "which", "moves", "called"));
    static final List<String> VARS = Arrays.asList("over", "under", "cross", "ends", "tired", "minute", "which",
        "moves", "called");
    static final List<String> LAWS = Arrays.asList("tires", "rests", "pays", "slips");

    // ---- texts

    static final class Fault extends RuntimeException {
        final int number;
        final int place;

        Fault(int number, int place) {
            super(null, null, false, false);
            this.number = number;
            this.place = place;
        }
    }

    record Token(char sort, String text, int place) { }

    record Move(char sort, int k) { }

    record Named(String name, List<Move> moves) { }

    /** An E: sort 'i' a number, 'v' a VAR, else a sign with two parts. */
    record Tree(char sort, int value, Tree left, Tree right) { }

    record If(Tree less, Tree more, Tree then) { }

    record Law(List<If> ifs, Tree last) { }

    static final class Script {
        List<Named> squares = new ArrayList<>();
        List<Named> figures = new ArrayList<>();
        Law[] laws = {
            new Law(List.of(), new Tree('v', 7, null, null)), new Law(List.of(), new Tree('i', 1, null, null)),
            new Law(List.of(), new Tree('v', 2, null, null)), new Law(List.of(), new Tree('i', 0, null, null))};
        int seed = 0;
    }

    static List<Token> tokens(byte[] tape) {
        List<Token> all = new ArrayList<>();
        int at = 0;
        while (at < tape.length) {
            int c = tape[at] & 255;
            if (c == 9 || c == 10 || c == 13 || c == 32) {
                at++;
                continue;
            }
            int from = at;
            if (c >= 'a' && c <= 'z') {
                while (at < tape.length && tape[at] >= 'a' && tape[at] <= 'z') {
                    at++;
                }
                String word = new String(tape, from, at - from);
                all.add(new Token(word.length() > 8 ? '?' : WORDS.contains(word) ? 'w' : 'n', word, from));
            } else if (c >= '0' && c <= '9') {
                while (at < tape.length && tape[at] >= '0' && tape[at] <= '9') {
                    at++;
                }
                String digits = new String(tape, from, at - from);
                all.add(new Token(digits.length() > 4 ? '?' : 'i', digits, from));
            } else {
                at++;
                all.add(new Token(";=+-*/<()".indexOf(c) >= 0 ? 's' : '?', "" + (char) c, from));
            }
        }
        all.add(new Token('e', "", tape.length));
        return all;
    }

    static final class Parser {
        final List<Token> tokens;
        int at = 0;
        final Script script = new Script();
        final TreeMap<Integer, Integer> doubts = new TreeMap<>();
        final Set<String> names = new HashSet<>();

        Parser(byte[] tape) {
            tokens = tokens(tape);
        }

        Token peek() {
            return tokens.get(at);
        }

        boolean sees(String text) {
            return (peek().sort == 'w' || peek().sort == 's') && peek().text.equals(text);
        }

        Fault syntax() {
            return new Fault(1, peek().place);
        }

        Token next() {
            if (at >= 400) {
                throw new Fault(2, peek().place);
            }
            return tokens.get(at++);
        }

        Token need(String text) {
            if (!sees(text)) {
                throw syntax();
            }
            return next();
        }

        Token needSort(char sort) {
            if (peek().sort != sort) {
                throw syntax();
            }
            return next();
        }

        void doubt(int place, int number) {
            doubts.merge(place, number, Math::min);
        }

        Script all() {
            while (peek().sort != 'e') {
                if (sees("square")) {
                    named(script.squares, 4, true);
                } else if (sees("figure")) {
                    named(script.figures, 5, false);
                } else if (sees("seed")) {
                    next();
                    int value = Integer.parseInt(needSort('i').text);
                    need(";");
                    script.seed = value;
                } else if (peek().sort == 'w' && LAWS.contains(peek().text)) {
                    law();
                } else {
                    throw syntax();
                }
            }
            if (!doubts.isEmpty()) {
                throw new Fault(doubts.firstEntry().getValue(), doubts.firstKey());
            }
            return script;
        }

        void named(List<Named> list, int most, boolean isSquare) {
            if (list.size() == most) {
                throw new Fault(2, peek().place);
            }
            next();
            Token name = needSort('n');
            if (!names.add(name.text)) {
                doubt(name.place, 3);
            }
            List<Move> moves = new ArrayList<>();
            while (sees("twist") || sees("back") || sees("turn")) {
                if (moves.size() == 8) {
                    throw new Fault(2, peek().place);
                }
                String what = next().text;
                if (what.equals("turn")) {
                    moves.add(new Move('t', 0));
                } else {
                    Token number = needSort('i');
                    int k = Integer.parseInt(number.text);
                    if (k < 1 || k > 9) {
                        doubt(number.place, 5);
                    }
                    moves.add(new Move(what.equals("twist") ? '+' : '-', k));
                }
            }
            need(";");
            if (isSquare && made(moves, new Fraction(0, 1)) == null) {
                doubt(name.place, 6);
            }
            list.add(new Named(name.text, moves));
        }

        void law() {
            int which = LAWS.indexOf(next().text);
            need("=");
            List<If> ifs = new ArrayList<>();
            while (sees("if")) {
                if (ifs.size() == 4) {
                    throw new Fault(2, peek().place);
                }
                next();
                Tree less = sum(0);
                need("<");
                Tree more = sum(0);
                need("then");
                Tree then = sum(0);
                need("else");
                ifs.add(new If(less, more, then));
            }
            Tree last = sum(0);
            need(";");
            script.laws[which] = new Law(ifs, last);
        }

        Tree sum(int open) {
            Tree tree = part(open);
            while (sees("+") || sees("-")) {
                char sign = next().text.charAt(0);
                tree = new Tree(sign, 0, tree, part(open));
            }
            return tree;
        }

        Tree part(int open) {
            Tree tree = unit(open);
            while (sees("*") || sees("/")) {
                char sign = next().text.charAt(0);
                tree = new Tree(sign, 0, tree, unit(open));
            }
            return tree;
        }

        Tree unit(int open) {
            if (sees("(")) {
                if (open == 6) {
                    throw new Fault(2, peek().place);
                }
                next();
                Tree inside = sum(open + 1);
                need(")");
                return inside;
            }
            if (peek().sort == 'w' && VARS.contains(peek().text)) {
                return new Tree('v', VARS.indexOf(next().text), null, null);
            }
            return new Tree('i', Integer.parseInt(needSort('i').text), null, null);
        }
    }

    // ---- tangles

    record Fraction(int p, int q) {
        int crossings() {
            BigInteger over = BigInteger.valueOf(Math.abs(p));
            BigInteger under = BigInteger.valueOf(q);
            int sum = 0;
            while (under.signum() != 0) {
                BigInteger[] both = over.divideAndRemainder(under);
                sum += both[0].intValue();
                over = under;
                under = both[1];
            }
            return sum;
        }

        int ends() {
            return p % 2 == 0 ? 0 : q % 2 == 0 ? 2 : 1;
        }
    }

    static Fraction made(Move move, Fraction f) {
        if (move.sort == 't') {
            if (f.equals(new Fraction(1, 0))) {
                return new Fraction(0, 1);
            }
            if (f.equals(new Fraction(0, 1))) {
                return new Fraction(1, 0);
            }
            return f.p < 0 ? new Fraction(f.q, -f.p) : new Fraction(-f.q, f.p);
        }
        int p = move.sort == '+' ? f.p + move.k * f.q : f.p - move.k * f.q;
        return p < -99 || p > 99 ? null : new Fraction(p, f.q);
    }

    static Fraction made(List<Move> moves, Fraction from) {
        Fraction f = from;
        for (Move move : moves) {
            if (f != null) {
                f = made(move, f);
            }
        }
        return f;
    }

    // ---- what goes on

    static final class Dancers {
        Fraction f;
        int tired;
        int called;

        Dancers copy() {
            Dancers d = new Dancers();
            d.f = f;
            d.tired = tired;
            d.called = called;
            return d;
        }
    }

    static final class World {
        List<Dancers> squares = new ArrayList<>();
        int minute;
        int paid;

        World copy() {
            World w = new World();
            for (Dancers d : squares) {
                w.squares.add(d.copy());
            }
            w.minute = minute;
            w.paid = paid;
            return w;
        }
    }

    record Saying(int i, int ends, boolean so) { }

    byte[] tape = new byte[0];
    int faultPlace = -1;
    Script script = new Script();
    World world = new World();
    Deque<World> past = new ArrayDeque<>();
    World[] slots = new World[3];
    List<Saying> told = new ArrayList<>();

    static int lot(int n, int seed, int which) {
        long h = seed;
        for (int it : new int[] {209, which}) {
            h = ((h ^ it) & 0xffffffffL) * 1103515245L + 12345L & 0xffffffffL;
            h = h ^ h / 32768;
        }
        return (int) (h / 2 % n);
    }

    static final class ByNothing extends RuntimeException {
        ByNothing() {
            super(null, null, false, false);
        }
    }

    static int value(Tree tree, int[] vars) {
        if (tree.sort == 'i') {
            return tree.value;
        }
        if (tree.sort == 'v') {
            return vars[tree.value];
        }
        int left = value(tree.left, vars);
        int right = value(tree.right, vars);
        switch (tree.sort) {
            case '+': return left + right;
            case '-': return left - right;
            case '*': return left * right;
            default:
                if (right == 0) {
                    throw new ByNothing();
                }
                return left / right;
        }
    }

    int law(int which, int number, Dancers d, int minute, int moves) {
        int[] vars = {Math.abs(d.f.p), d.f.q, d.f.crossings(), d.f.ends(), d.tired, minute, number, moves, d.called};
        int worth;
        try {
            Law law = script.laws[which];
            Tree chosen = law.last;
            for (If one : law.ifs) {
                if (value(one.less, vars) < value(one.more, vars)) {
                    chosen = one.then;
                    break;
                }
            }
            worth = value(chosen, vars);
        } catch (ByNothing e) {
            worth = 0;
        }
        int most = which == 3 ? 100 : 99;
        return worth < 0 ? 0 : worth > most ? most : worth;
    }

    boolean called(int number, Dancers d, int minute, Named figure, List<Move> moves) {
        Fraction f = made(moves, d.f);
        if (f == null) {
            return false;
        }
        int more = law(0, number, d, minute, figure.moves.size());
        d.f = f;
        d.tired = Math.min(999, d.tired + more);
        d.called++;
        return true;
    }

    int minuteOf(int number, Dancers d, int minute, int seed) {
        int paid = law(2, number, d, minute, 0);
        int rests = law(1, number, d, minute, 0);
        int slips = law(3, number, d, minute, 0);
        int many = script.figures.size();
        if (many > 0) {
            Named figure = script.figures.get(lot(many, seed, 8 * minute + number));
            List<Move> moves = figure.moves;
            if (lot(100, seed, 100000 + 8 * minute + number) < slips && !moves.isEmpty()) {
                moves = moves.subList(0, moves.size() - 1);
            }
            if (called(number, d, minute, figure, moves)) {
                return paid;
            }
        }
        d.tired = Math.max(0, d.tired - rests);
        return paid;
    }

    boolean noSquare(int s) {
        return s < 0 || s >= script.squares.size();
    }

    boolean noFigure(int f) {
        return f < 0 || f >= script.figures.size();
    }

    void did() {
        past.addLast(world.copy());
        if (past.size() > 40) {
            past.removeFirst();
        }
    }

    Fraction at(int square) {
        return world.squares.get(square).f;
    }

    List<Move> movesOf(int figure) {
        return script.figures.get(figure).moves;
    }

    // ---- the face

    int feed(int a, int b, int c, int d, int e) {
        if (tape.length + 20 > 2000) {
            return -1;
        }
        int from = tape.length;
        tape = Arrays.copyOf(tape, from + 20);
        int[] all = {a, b, c, d, e};
        for (int i = 0; i < 20; i++) {
            tape[from + i] = (byte) (all[i / 4] >>> 8 * (3 - i % 4));
        }
        return tape.length;
    }

    int back(int n) {
        if (n < 0 || n > tape.length) {
            return -1;
        }
        tape = Arrays.copyOf(tape, tape.length - n);
        return tape.length;
    }

    int read() {
        byte[] text = tape;
        tape = new byte[0];
        try {
            script = new Parser(text).all();
        } catch (Fault fault) {
            faultPlace = fault.place;
            return fault.number;
        }
        faultPlace = -1;
        world = new World();
        for (Named square : script.squares) {
            Dancers d = new Dancers();
            d.f = made(square.moves, new Fraction(0, 1));
            world.squares.add(d);
        }
        past.clear();
        slots = new World[3];
        told.clear();
        return 0;
    }

    int place() {
        return faultPlace;
    }

    int square(int s, int what) {
        if (noSquare(s) || what < 0 || what > 8) {
            return -1000;
        }
        Dancers d = world.squares.get(s);
        return new int[] {d.f.p, d.f.q, d.f.crossings(), d.f.ends(), d.tired, law(1, s, d, world.minute, 0),
            law(2, s, d, world.minute, 0), law(3, s, d, world.minute, 0), d.called}[what];
    }

    static BigInteger[] times(BigInteger[] after, BigInteger[] first) {
        return new BigInteger[] {
            after[0].multiply(first[0]).add(after[1].multiply(first[2])),
            after[0].multiply(first[1]).add(after[1].multiply(first[3])),
            after[2].multiply(first[0]).add(after[3].multiply(first[2])),
            after[2].multiply(first[1]).add(after[3].multiply(first[3]))};
    }

    static BigInteger[] big(int a, int b, int c, int d) {
        return new BigInteger[] {BigInteger.valueOf(a), BigInteger.valueOf(b), BigInteger.valueOf(c),
            BigInteger.valueOf(d)};
    }

    static BigInteger[] raw(List<Move> moves) {
        BigInteger[] table = big(1, 0, 0, 1);
        for (Move move : moves) {
            BigInteger[] one = move.sort == 't' ? big(0, -1, 1, 0) : big(1, move.sort == '+' ? move.k : -move.k, 0, 1);
            table = times(one, table);
        }
        return table;
    }

    static List<BigInteger> normal(BigInteger[] table) {
        int sign = 0;
        for (BigInteger one : table) {
            if (sign == 0) {
                sign = one.signum();
            }
        }
        List<BigInteger> all = new ArrayList<>();
        for (BigInteger one : table) {
            all.add(sign < 0 ? one.negate() : one);
        }
        return all;
    }

    List<BigInteger> table(int figure) {
        return normal(raw(movesOf(figure)));
    }

    int figure(int f, int what) {
        if (noFigure(f) || what < 0 || what > 4) {
            return -1000000000;
        }
        return what == 4 ? movesOf(f).size() : table(f).get(what).intValueExact();
    }

    int tires(int s, int f) {
        return noSquare(s) || noFigure(f) ? -1 : law(0, s, world.squares.get(s), world.minute, movesOf(f).size());
    }

    int after(int s, int f, int what) {
        if (noSquare(s) || noFigure(f) || what < 0 || what > 1) {
            return -1000;
        }
        Fraction to = made(movesOf(f), at(s));
        return to == null ? -1000 : what == 0 ? to.p : to.q;
    }

    int call(int s, int f) {
        if (noSquare(s) || noFigure(f) || made(movesOf(f), at(s)) == null) {
            return -1;
        }
        did();
        called(s, world.squares.get(s), world.minute, script.figures.get(f), movesOf(f));
        return at(s).crossings();
    }

    boolean move(int s, int what, int k) {
        if (noSquare(s) || what < 0 || what > 2 || what < 2 && (k < 1 || k > 9)) {
            return false;
        }
        Fraction to = made(new Move("+-t".charAt(what), k), at(s));
        if (to == null) {
            return false;
        }
        did();
        world.squares.get(s).f = to;
        return true;
    }

    boolean let(int s) {
        if (noSquare(s) || at(s).equals(new Fraction(0, 1))) {
            return false;
        }
        did();
        world.squares.get(s).f = new Fraction(0, 1);
        return true;
    }

    int minutes(int n) {
        if (n < 0 || n > 60) {
            return -1;
        }
        if (n > 0) {
            did();
        }
        for (int i = 0; i < n; i++) {
            for (int s = 0; s < world.squares.size(); s++) {
                world.paid += minuteOf(s, world.squares.get(s), world.minute, script.seed);
            }
            world.minute++;
        }
        return world.minute;
    }

    boolean undo() {
        if (past.isEmpty()) {
            return false;
        }
        world = past.removeLast();
        return true;
    }

    /** All WAYS, each as its things, R / Q ahead of the other one. */
    static List<List<Integer>> allWays(Fraction f) {
        List<List<Integer>> all = new ArrayList<>();
        if (f.q == 0) {
            all.add(List.of(100));
            return all;
        }
        int r = Math.floorMod(f.p, f.q);
        for (int goal : r > 0 ? new int[] {r, r - f.q} : new int[] {r}) {
            List<Integer> start = new ArrayList<>();
            if (goal != f.p) {
                start.add((goal - f.p) / f.q);
            }
            if (goal == 0) {
                all.add(start);
                continue;
            }
            start.add(100);
            for (List<Integer> rest : allWays(made(new Move('t', 0), new Fraction(goal, f.q)))) {
                List<Integer> way = new ArrayList<>(start);
                way.addAll(rest);
                all.add(way);
            }
        }
        return all;
    }

    static int cost(List<Integer> way) {
        int sum = 0;
        for (int thing : way) {
            sum += thing == 100 ? 1 : Math.abs(thing);
        }
        return sum;
    }

    static List<Integer> leastWay(Fraction f) {
        List<Integer> best = null;
        for (List<Integer> way : allWays(f)) {
            if (best == null || cost(way) < cost(best)) {
                best = way;
            }
        }
        return best;
    }

    int least(int s) {
        return noSquare(s) ? -1 : cost(leastWay(at(s)));
    }

    int ways(int s) {
        return noSquare(s) ? -1 : allWays(at(s)).size();
    }

    int step(int s, int i) {
        if (noSquare(s)) {
            return -1000;
        }
        List<Integer> way = leastWay(at(s));
        return i < 0 || i >= way.size() ? -1000 : way.get(i);
    }

    /** Layer by layer, every TANGLE with the lowest of its shortest rows. */
    Map<Fraction, List<Integer>> spread(Fraction from) {
        Map<Fraction, List<Integer>> known = new HashMap<>();
        Map<Fraction, List<Integer>> layer = new HashMap<>();
        layer.put(from, List.of());
        while (!layer.isEmpty()) {
            known.putAll(layer);
            Map<Fraction, List<Integer>> next = new HashMap<>();
            for (Map.Entry<Fraction, List<Integer>> one : layer.entrySet()) {
                for (int f = 0; f < script.figures.size(); f++) {
                    Fraction to = made(movesOf(f), one.getKey());
                    if (to == null || known.containsKey(to)) {
                        continue;
                    }
                    List<Integer> row = new ArrayList<>(one.getValue());
                    row.add(f);
                    List<Integer> other = next.get(to);
                    if (other == null || lower(row, other)) {
                        next.put(to, row);
                    }
                }
            }
            layer = next;
        }
        return known;
    }

    static boolean lower(List<Integer> one, List<Integer> other) {
        for (int i = 0; i < one.size(); i++) {
            if (!one.get(i).equals(other.get(i))) {
                return one.get(i) < other.get(i);
            }
        }
        return false;
    }

    int rowTo(Fraction from, Fraction to, int i) {
        List<Integer> row = spread(from).get(to);
        if (row == null) {
            return -2;
        }
        return i == -1 ? row.size() : i < row.size() ? row.get(i) : -1;
    }

    int plan(int s, int i) {
        return noSquare(s) || i < -1 ? -1 : rowTo(at(s), new Fraction(0, 1), i);
    }

    int bring(int s, int o, int i) {
        return noSquare(s) || noSquare(o) || s == o || i < -1 ? -1 : rowTo(at(s), at(o), i);
    }

    int reach(int s) {
        return noSquare(s) ? -1 : spread(at(s)).size();
    }

    static int gcd(int a, int b) {
        return BigInteger.valueOf(a).gcd(BigInteger.valueOf(b)).intValue();
    }

    int closed(int s, int what) {
        if (noSquare(s) || what < 0 || what > 2) {
            return -1;
        }
        Fraction f = at(s);
        int p = Math.abs(f.p);
        if (what == 0) {
            return p;
        }
        if (what == 2) {
            return f.p % 2 == 0 ? 2 : 1;
        }
        int q = f.p < 0 ? -f.q : f.q;
        while (p > 0 && q < 0) {
            q += p;
        }
        while (p > 0 && q >= p) {
            q -= p;
        }
        return p == 0 ? 0 : q;
    }

    int alike(int s, int o) {
        if (noSquare(s) || noSquare(o)) {
            return -1;
        }
        int p = closed(s, 0);
        int q = closed(s, 1);
        int r = closed(o, 1);
        if (p != closed(o, 0)) {
            return 0;
        }
        if (q == r) {
            return 1;
        }
        for (int t = 0; t <= 10000; t++) {
            if (t * p == q * r - 1) {
                return 1;
            }
        }
        return 0;
    }

    int colours(int s, int n) {
        return noSquare(s) || n < 2 || n > 97 ? -1 : n * gcd(n, closed(s, 0));
    }

    int joined(int s, int o) {
        return noSquare(s) || noSquare(o) ? -1 : Math.abs(at(s).p * at(o).q + at(o).p * at(s).q);
    }

    int order(int f) {
        if (noFigure(f)) {
            return -1;
        }
        BigInteger[] one = raw(movesOf(f));
        BigInteger[] power = big(1, 0, 0, 1);
        for (int n = 1; n <= 24; n++) {
            power = times(one, power);
            if (normal(power).equals(Arrays.asList(big(1, 0, 0, 1)))) {
                return n;
            }
        }
        return -2;
    }

    static BigInteger[] by(BigInteger[] table, int m) {
        BigInteger[] rests = new BigInteger[4];
        for (int i = 0; i < 4; i++) {
            rests[i] = table[i].mod(BigInteger.valueOf(m));
        }
        return rests;
    }

    int round(int f, int m) {
        if (noFigure(f) || m < 2 || m > 97) {
            return -1;
        }
        BigInteger[] one = by(raw(movesOf(f)), m);
        BigInteger[] power = one;
        int n = 1;
        while (!Arrays.equals(power, big(1, 0, 0, 1)) && !Arrays.equals(power, big(m - 1, 0, 0, m - 1))) {
            power = by(times(power, one), m);
            n++;
        }
        return n;
    }

    static BigInteger[] power(BigInteger[] table, int n, int m) {
        if (n == 0) {
            return by(big(1, 0, 0, 1), m);
        }
        BigInteger[] half = power(table, n / 2, m);
        BigInteger[] whole = by(times(half, half), m);
        return n % 2 == 0 ? whole : by(times(whole, table), m);
    }

    int power(int f, int n, int m, int what) {
        if (noFigure(f) || n < 0 || n > 1000000000 || m < 2 || m > 97 || what < 0 || what > 3) {
            return -1;
        }
        return power(raw(movesOf(f)), n, m)[what].intValue();
    }

    static final List<Fraction> ALL = allTangles();

    static List<Fraction> allTangles() {
        List<Fraction> all = new ArrayList<>();
        all.add(new Fraction(1, 0));
        for (int q = 1; q <= 99; q++) {
            for (int p = -99; p <= 99; p++) {
                if (gcd(p, q) == 1) {
                    all.add(new Fraction(p, q));
                }
            }
        }
        return all;
    }

    int stays(int f, int what) {
        if (noFigure(f) || what < 0 || what > 2) {
            return -1000;
        }
        List<BigInteger> big = table(f);
        long a = big.get(0).longValueExact();
        long b = big.get(1).longValueExact();
        long c = big.get(2).longValueExact();
        long d = big.get(3).longValueExact();
        int many = 0;
        Fraction first = null;
        for (Fraction one : ALL) {
            if ((a * one.p + b * one.q) * one.q == (c * one.p + d * one.q) * one.p) {
                many++;
                first = first == null ? one : first;
            }
        }
        return what == 0 ? many : first == null ? -1000 : what == 1 ? first.p : first.q;
    }

    List<BigInteger> behind(int f, int g) {
        List<Move> both = new ArrayList<>(movesOf(f));
        both.addAll(movesOf(g));
        return normal(raw(both));
    }

    int mind(int f, int g) {
        return noFigure(f) || noFigure(g) ? -1 : behind(f, g).equals(behind(g, f)) ? 0 : 1;
    }

    int reverse(int f) {
        if (noFigure(f)) {
            return -1;
        }
        for (int g = 0; g < script.figures.size(); g++) {
            if (behind(f, g).equals(Arrays.asList(big(1, 0, 0, 1)))) {
                return g;
            }
        }
        return -2;
    }

    int hands(int f, int ends) {
        if (noFigure(f) || ends < 0 || ends > 2) {
            return -1;
        }
        // a TANGLE of these ENDS from which no MOVE goes beyond anything
        int p = ends == 0 ? 0 : 1;
        int q = ends == 2 ? 0 : 1;
        List<BigInteger> t = table(f);
        boolean pOdd = t.get(0).multiply(BigInteger.valueOf(p)).add(t.get(1).multiply(BigInteger.valueOf(q))).testBit(0);
        boolean qOdd = t.get(2).multiply(BigInteger.valueOf(p)).add(t.get(3).multiply(BigInteger.valueOf(q))).testBit(0);
        return !pOdd ? 0 : qOdd ? 1 : 2;
    }

    Dancers in(int s, int n, int seed) {
        Dancers d = world.squares.get(s).copy();
        for (int i = 0; i < n; i++) {
            minuteOf(s, d, world.minute + i, seed);
        }
        return d;
    }

    int then(int s, int n, int what) {
        if (noSquare(s) || n < 0 || n > 60 || what < 0 || what > 2) {
            return -1000;
        }
        Dancers d = in(s, n, script.seed);
        return what == 0 ? d.f.p : what == 1 ? d.f.q : d.tired;
    }

    int year(int s, int n, int seeds) {
        if (noSquare(s) || n < 0 || n > 60 || seeds < 1 || seeds > 20) {
            return -1;
        }
        int many = 0;
        for (int i = 0; i < seeds; i++) {
            many += in(s, n, script.seed + i).f.equals(new Fraction(0, 1)) ? 1 : 0;
        }
        return many;
    }

    int tell(int i, int ends, boolean so) {
        if (told.size() == 20 || i < 1 || i > 4 || ends < 0 || ends > 2) {
            return -1;
        }
        told.add(new Saying(i, ends, so));
        return told.size() - 1;
    }

    int forget() {
        int were = told.size();
        told.clear();
        return were;
    }

    /** All ROWS that FIT, each as the FIGURES and then the ENDS behind each. */
    List<int[]> fitting(int k, int s, int l) {
        List<int[]> all = new ArrayList<>();
        extend(k, l, 0, new int[2 * l], at(s), all);
        return all;
    }

    private void extend(int k, int l, int done, int[] row, Fraction f, List<int[]> all) {
        if (done == l) {
            for (Saying saying : told.subList(0, k)) {
                if (saying.i > l || (row[l + saying.i - 1] == saying.ends) != saying.so) {
                    return;
                }
            }
            all.add(row.clone());
            return;
        }
        for (int g = 0; g < script.figures.size(); g++) {
            Fraction to = made(movesOf(g), f);
            if (to != null) {
                row[done] = g;
                row[l + done] = to.ends();
                extend(k, l, done + 1, row, to, all);
            }
        }
    }

    boolean noRows(int k, int s, int l) {
        return k < 0 || k > told.size() || noSquare(s) || l < 1 || l > 4;
    }

    int rows(int k, int s, int l, int what) {
        if (noRows(k, s, l) || what < 0 || what > 1) {
            return -1;
        }
        List<int[]> all = fitting(k, s, l);
        if (what == 0) {
            return all.size();
        }
        if (all.isEmpty()) {
            return -2;
        }
        int code = 0;
        for (int i = 0; i < l; i++) {
            code = code * script.figures.size() + all.get(0)[i];
        }
        return code;
    }

    int listen(int k, int s, int l) {
        if (noRows(k, s, l)) {
            return -1;
        }
        List<int[]> all = fitting(k, s, l);
        if (all.isEmpty()) {
            return -2;
        }
        int best = 0;
        int bestWorst = Integer.MAX_VALUE;
        for (int i = 1; i <= l; i++) {
            int worst = 0;
            for (int ends = 0; ends < 3; ends++) {
                int left = 0;
                for (int[] row : all) {
                    left += row[l + i - 1] == ends ? 1 : 0;
                }
                worst = Math.max(worst, left);
            }
            if (worst < bestWorst) {
                bestWorst = worst;
                best = i;
            }
        }
        return best;
    }

    boolean hold(int slot) {
        if (slot < 0 || slot > 2) {
            return false;
        }
        slots[slot] = world.copy();
        return true;
    }

    boolean restore(int slot) {
        if (slot < 0 || slot > 2 || slots[slot] == null) {
            return false;
        }
        world = slots[slot].copy();
        past.clear();
        return true;
    }

    int count(int what) {
        int crossings = 0;
        int undone = 0;
        int tired = 0;
        int called = 0;
        int ends0 = 0;
        int ends2 = 0;
        for (int s = 0; s < world.squares.size(); s++) {
            Dancers d = world.squares.get(s);
            crossings += d.f.crossings();
            undone += d.f.equals(new Fraction(0, 1)) ? 1 << s : 0;
            tired += d.tired;
            called += d.called;
            ends0 += d.f.ends() == 0 ? 1 << s : 0;
            ends2 += d.f.ends() == 2 ? 1 << s : 0;
        }
        int held = 0;
        for (World slot : slots) {
            held += slot != null ? 1 : 0;
        }
        int[] all = {script.squares.size(), script.figures.size(), world.minute, world.paid, crossings, undone, tired,
            called, tape.length, past.size(), told.size(), held, ends0, ends2};
        return what < 0 || what >= all.length ? -1 : all[what];
    }
}
