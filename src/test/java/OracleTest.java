import java.util.ArrayDeque;
import java.util.ArrayList;
import java.util.Arrays;
import java.util.HashSet;
import java.util.List;
import java.util.Random;
import java.util.Set;

/**
 * Compares ToldTracks with a slow model that follows the document's words one by one: twos are
 * tried one by one, sets of sayings by trying all of them that could be due. Seas, faults and calls
 * are made up from fixed seeds, so each run is the same.
 */
public final class OracleTest {
    private static int wrong = 0;
    private static int calls = 0;
    private static String context = "";

    private static void same(String call, long got, long want) {
        calls++;
        if (got != want) {
            wrong++;
            if (wrong <= 20) {
                System.out.println(call + " answered " + got + ", due is " + want + " in " + context);
            }
        }
    }

    // ---- the model

    static final class Fact {
        final int hour;
        final int cell;
        final boolean saying;
        final boolean laden;

        Fact(int hour, int cell, boolean saying, boolean laden) {
            this.hour = hour;
            this.cell = cell;
            this.saying = saying;
            this.laden = laden;
        }
    }

    static final class Book {
        int cell;
        int from;
        int to;
    }

    static final class Vessel {
        String name;
        int look;
        int speed;
        int draft;
        int load;
        final List<Fact> says = new ArrayList<>();
        final List<Book> books = new ArrayList<>();

        List<Fact> bookFacts() {
            List<Fact> facts = new ArrayList<>();
            for (Book b : books) {
                for (int h = b.from; h <= b.to; h++) {
                    facts.add(new Fact(h, b.cell, false, false));
                }
            }
            return facts;
        }
    }

    interface Node {
        int at(int column, int row, int hour, int depth);
    }

    static final class Rule {
        Node sum;
        Node test;
    }

    static final class State {
        int columns;
        int rows;
        int luck = 10;
        final List<Vessel> ships = new ArrayList<>();
        final List<int[]> sights = new ArrayList<>();
        final List<Rule> depths = new ArrayList<>();
        final List<Rule> costs = new ArrayList<>();
        final List<Rule> quiets = new ArrayList<>();
        int statements;

        int sayings() {
            int n = 0;
            for (Vessel v : ships) {
                n += v.says.size();
            }
            return n;
        }

        int bookCount() {
            int n = 0;
            for (Vessel v : ships) {
                n += v.books.size();
            }
            return n;
        }

        private int[] depthMemo;

        int depth(int cell) {
            if (depthMemo == null) {
                depthMemo = new int[columns * rows];
                for (int c = 0; c < depthMemo.length; c++) {
                    depthMemo[c] = first(depths, c, 0);
                }
            }
            return depthMemo[cell];
        }

        int first(List<Rule> rules, int cell, int depth) {
            for (Rule r : rules) {
                if (r.test.at(cell % columns, cell / columns, 0, depth) != 0) {
                    int v = r.sum.at(cell % columns, cell / columns, 0, depth);
                    return v < 0 ? 0 : v > 99 ? 99 : v;
                }
            }
            return 0;
        }

        int cost(int cell) {
            return first(costs, cell, depth(cell));
        }

        boolean quiet(int cell, int hour) {
            for (Rule r : quiets) {
                if (r.test.at(cell % columns, cell / columns, hour, depth(cell)) != 0) {
                    return true;
                }
            }
            return false;
        }
    }

    static final class Bad extends RuntimeException {
        final int kind;
        final int place;

        Bad(int kind, int place) {
            this.kind = kind;
            this.place = place;
        }
    }

    static final Set<String> OWN = new HashSet<>(Arrays.asList(
            ("size depth cost quiet ship look speed draft load says at laden book from to seen hour luck "
            + "when or and not all column row min max").split(" ")));

    /** Tokens by a place in the text: each take looks at the text anew from there. */
    static final class Text {
        final String s;
        int at = 0;
        boolean glued = false;

        Text(String s) {
            this.s = s;
        }

        void blanks() {
            while (at < s.length() && (s.charAt(at) == ' ' || s.charAt(at) == '\n')) {
                at++;
                glued = false;
            }
        }

        static boolean letter(char c) {
            return c >= 'a' && c <= 'z';
        }

        static boolean digit(char c) {
            return c >= '0' && c <= '9';
        }

        String peek() {
            blanks();
            if (at >= s.length()) {
                return "";
            }
            char c = s.charAt(at);
            if (!letter(c) && !digit(c)) {
                return s.substring(at, at + 1);
            }
            int e = at;
            while (e < s.length() && (letter(c) ? letter(s.charAt(e)) : digit(s.charAt(e)))) {
                if (e - at == (letter(c) ? 6 : 4)) {
                    throw new Bad(1, e);
                }
                e++;
            }
            if (glued) {
                throw new Bad(1, at);
            }
            return s.substring(at, e);
        }

        String pop() {
            String t = peek();
            at += t.length();
            glued = !t.isEmpty() && (letter(t.charAt(0)) || digit(t.charAt(0)));
            return t;
        }

        void want(String w) {
            if (!peek().equals(w)) {
                throw new Bad(1, at);
            }
            pop();
        }

        int number(int low, int high) {
            String t = peek();
            if (t.isEmpty() || !digit(t.charAt(0))) {
                throw new Bad(1, at);
            }
            int v = Integer.parseInt(t);
            if (v < low || v > high) {
                throw new Bad(4, at);
            }
            pop();
            return v;
        }

        String name() {
            String t = peek();
            if (t.isEmpty() || !letter(t.charAt(0)) || OWN.contains(t)) {
                throw new Bad(1, at);
            }
            return t;
        }
    }

    static int cut(long v) {
        return (int) (v > 1000000 ? 1000000 : v < -1000000 ? -1000000 : v);
    }

    static Node sum(Text t, int open) {
        Node a = product(t, open);
        while (t.peek().equals("+") || t.peek().equals("-")) {
            boolean plus = t.pop().equals("+");
            Node l = a;
            Node r = product(t, open);
            a = (c, w, h, d) -> cut(plus ? (long) l.at(c, w, h, d) + r.at(c, w, h, d)
                    : (long) l.at(c, w, h, d) - r.at(c, w, h, d));
        }
        return a;
    }

    static int divide(int a, int b) {
        if (b == 0) {
            return 0;
        }
        return (int) Math.floor((double) a / b);
    }

    static Node product(Text t, int open) {
        Node a = part(t, open);
        while (t.peek().equals("*") || t.peek().equals("/") || t.peek().equals("%")) {
            char sign = t.pop().charAt(0);
            Node l = a;
            Node r = part(t, open);
            a = (c, w, h, d) -> {
                int x = l.at(c, w, h, d);
                int y = r.at(c, w, h, d);
                return sign == '*' ? cut((long) x * y) : sign == '/' ? divide(x, y)
                        : y == 0 ? 0 : x - y * divide(x, y);
            };
        }
        return a;
    }

    static void opening(Text t, String sign, int open) {
        if (!t.peek().equals(sign)) {
            throw new Bad(1, t.at);
        }
        if (open == 8) {
            throw new Bad(5, t.at);
        }
        t.pop();
    }

    static Node part(Text t, int open) {
        String p = t.peek();
        if (!p.isEmpty() && Text.digit(p.charAt(0))) {
            int v = Integer.parseInt(t.pop());
            return (c, w, h, d) -> v;
        }
        switch (p) {
            case "column":
                t.pop();
                return (c, w, h, d) -> c;
            case "row":
                t.pop();
                return (c, w, h, d) -> w;
            case "hour":
                t.pop();
                return (c, w, h, d) -> h;
            case "depth":
                t.pop();
                return (c, w, h, d) -> d;
            case "(": {
                opening(t, "(", open);
                Node a = sum(t, open + 1);
                t.want(")");
                return a;
            }
            case "min":
            case "max": {
                boolean least = t.pop().equals("min");
                opening(t, "(", open);
                Node a = sum(t, open + 1);
                t.want(",");
                Node b = sum(t, open + 1);
                t.want(")");
                return (c, w, h, d) -> least ? Math.min(a.at(c, w, h, d), b.at(c, w, h, d))
                        : Math.max(a.at(c, w, h, d), b.at(c, w, h, d));
            }
            default:
                throw new Bad(1, t.at);
        }
    }

    static Node test(Text t, int open) {
        Node a = both(t, open);
        while (t.peek().equals("or")) {
            t.pop();
            Node l = a;
            Node r = both(t, open);
            a = (c, w, h, d) -> l.at(c, w, h, d) != 0 || r.at(c, w, h, d) != 0 ? 1 : 0;
        }
        return a;
    }

    static Node both(Text t, int open) {
        Node a = fact(t, open);
        while (t.peek().equals("and")) {
            t.pop();
            Node l = a;
            Node r = fact(t, open);
            a = (c, w, h, d) -> l.at(c, w, h, d) != 0 && r.at(c, w, h, d) != 0 ? 1 : 0;
        }
        return a;
    }

    static Node fact(Text t, int open) {
        String p = t.peek();
        if (p.equals("not")) {
            t.pop();
            Node a = fact(t, open);
            return (c, w, h, d) -> a.at(c, w, h, d) != 0 ? 0 : 1;
        }
        if (p.equals("[")) {
            opening(t, "[", open);
            Node a = test(t, open + 1);
            t.want("]");
            return a;
        }
        if (p.equals("all")) {
            t.pop();
            return (c, w, h, d) -> 1;
        }
        Node a = sum(t, open);
        String sign = t.peek();
        if (!sign.equals("<") && !sign.equals(">") && !sign.equals("=")) {
            throw new Bad(1, t.at);
        }
        t.pop();
        Node b = sum(t, open);
        return (c, w, h, d) -> {
            int x = a.at(c, w, h, d);
            int y = b.at(c, w, h, d);
            return (sign.equals("<") ? x < y : sign.equals(">") ? x > y : x == y) ? 1 : 0;
        };
    }

    static void limit(int have, int most, int place) {
        if (have >= most) {
            throw new Bad(5, place);
        }
    }

    static Rule rule(Text t, boolean withSum) {
        Rule r = new Rule();
        if (withSum) {
            r.sum = sum(t, 0);
        }
        t.want("when");
        r.test = test(t, 0);
        return r;
    }

    static Vessel asked(Text t, State z) {
        String n = t.name();
        for (Vessel v : z.ships) {
            if (v.name.equals(n)) {
                t.pop();
                return v;
            }
        }
        throw new Bad(3, t.at);
    }

    static int cellOf(Text t, State z) {
        t.want("at");
        int c = t.number(0, z.columns - 1);
        return c + z.columns * t.number(0, z.rows - 1);
    }

    static void insert(Vessel v, Fact f) {
        int i = 0;
        while (i < v.says.size() && v.says.get(i).hour < f.hour) {
            i++;
        }
        v.says.add(i, f);
    }

    static boolean said(Vessel v, int hour) {
        for (Fact f : v.says) {
            if (f.hour == hour) {
                return true;
            }
        }
        return false;
    }

    static State parse(String s) {
        Text t = new Text(s);
        State z = new State();
        if (!t.peek().equals("size")) {
            throw new Bad(1, t.at);
        }
        t.pop();
        z.columns = t.number(2, 16);
        z.rows = t.number(2, 16);
        t.want(";");
        z.statements = 1;
        while (!t.peek().isEmpty()) {
            statement(t, z);
            t.want(";");
            z.statements++;
        }
        return z;
    }

    static void statement(Text t, State z) {
        String w = t.peek();
        int place = t.at;
        switch (w) {
            case "depth":
                limit(z.depths.size(), 12, place);
                t.pop();
                z.depths.add(rule(t, true));
                break;
            case "cost":
                limit(z.costs.size(), 12, place);
                t.pop();
                z.costs.add(rule(t, true));
                break;
            case "quiet":
                limit(z.quiets.size(), 6, place);
                t.pop();
                z.quiets.add(rule(t, false));
                break;
            case "ship": {
                limit(z.ships.size(), 8, place);
                t.pop();
                Vessel v = new Vessel();
                v.name = t.name();
                for (Vessel o : z.ships) {
                    if (o.name.equals(v.name)) {
                        throw new Bad(2, t.at);
                    }
                }
                t.pop();
                t.want("look");
                v.look = t.number(0, 3);
                t.want("speed");
                v.speed = t.number(1, 4);
                t.want("draft");
                v.draft = t.number(1, 40);
                t.want("load");
                v.load = t.number(0, 40);
                z.ships.add(v);
                break;
            }
            case "says": {
                limit(z.sayings(), 96, place);
                t.pop();
                Vessel v = asked(t, z);
                t.peek();
                int there = t.at;
                String keep = t.peek();
                int hour = numberUnpopped(t, keep);
                if (said(v, hour)) {
                    throw new Bad(3, there);
                }
                t.pop();
                int cell = cellOf(t, z);
                t.want("laden");
                insert(v, new Fact(hour, cell, true, t.number(0, 1) == 1));
                break;
            }
            case "book": {
                limit(z.bookCount(), 12, place);
                t.pop();
                Vessel v = asked(t, z);
                Book b = new Book();
                b.cell = cellOf(t, z);
                t.want("from");
                b.from = t.number(0, 47);
                t.want("to");
                b.to = t.number(b.from, 47);
                v.books.add(b);
                break;
            }
            case "seen": {
                limit(z.sights.size(), 40, place);
                t.pop();
                int look = t.number(0, 3);
                int cell = cellOf(t, z);
                t.want("hour");
                z.sights.add(new int[] {look, cell, t.number(0, 47)});
                break;
            }
            case "luck":
                t.pop();
                z.luck = t.number(0, 100);
                break;
            default:
                throw new Bad(1, place);
        }
    }

    static int numberUnpopped(Text t, String token) {
        if (token.isEmpty() || !Text.digit(token.charAt(0))) {
            throw new Bad(1, t.at);
        }
        int v = Integer.parseInt(token);
        if (v > 47) {
            throw new Bad(4, t.at);
        }
        return v;
    }

    static final class Model {
        State z = new State();
        StringBuilder tape = new StringBuilder();
        int fault = 0;
        int place = -1;
        final int[] refusals = new int[5];
        int[] image = new int[0];

        int sea() {
            String text = tape.toString();
            tape.setLength(0);
            try {
                State fresh = parse(text);
                z = fresh;
                fault = 0;
                place = -1;
                wayMemo = new int[41][][];
                changed();
                return z.statements;
            } catch (Bad bad) {
                fault = bad.kind;
                place = bad.place;
                refusals[1]++;
                return -1;
            }
        }

        void changed() {
            keptMemo = new Long[8];
            mayMemo = new boolean[8][][];
        }

        private Long[] keptMemo = new Long[8];
        private boolean[][][] mayMemo = new boolean[8][][];

        boolean water(Vessel v, int cell) {
            return z.depth(cell) >= v.draft;
        }

        private int[][][] wayMemo = new int[41][][];

        int steps(Vessel v, int from, int to) {
            if (!water(v, from) || !water(v, to)) {
                return -1;
            }
            if (wayMemo[v.draft] == null) {
                wayMemo[v.draft] = new int[z.columns * z.rows][];
            }
            if (wayMemo[v.draft][from] == null) {
                wayMemo[v.draft][from] = ways(v, from);
            }
            return wayMemo[v.draft][from][to];
        }

        int[] ways(Vessel v, int from) {
            int[] dist = new int[z.columns * z.rows];
            Arrays.fill(dist, -1);
            dist[from] = 0;
            ArrayDeque<Integer> queue = new ArrayDeque<>();
            queue.add(from);
            while (!queue.isEmpty()) {
                int c = queue.poll();
                int x = c % z.columns;
                int y = c / z.columns;
                int[][] sides = {{x + 1, y}, {x - 1, y}, {x, y + 1}, {x, y - 1}};
                for (int[] s : sides) {
                    if (s[0] < 0 || s[1] < 0 || s[0] >= z.columns || s[1] >= z.rows) {
                        continue;
                    }
                    int n = s[1] * z.columns + s[0];
                    if (dist[n] < 0 && water(v, n)) {
                        dist[n] = dist[c] + 1;
                        queue.add(n);
                    }
                }
            }
            return dist;
        }

        int far(Vessel v, int from, int to) {
            int s = steps(v, from, to);
            return s < 0 ? -1 : (s + v.speed - 1) / v.speed;
        }

        boolean sound(Vessel v, Fact f) {
            return z.depth(f.cell) >= v.draft + (f.laden ? v.load : 0);
        }

        boolean together(Vessel v, Fact a, Fact b) {
            if (a.hour == b.hour) {
                return a.cell == b.cell;
            }
            int hours = far(v, a.cell, b.cell);
            return hours >= 0 && hours <= Math.abs(a.hour - b.hour);
        }

        boolean fit(Vessel v, List<Fact> facts) {
            for (Fact f : facts) {
                if (f.saying ? !sound(v, f) : !water(v, f.cell)) {
                    return false;
                }
            }
            for (int i = 0; i < facts.size(); i++) {
                for (int j = 0; j < i; j++) {
                    if (!together(v, facts.get(i), facts.get(j))) {
                        return false;
                    }
                }
            }
            return true;
        }

        @SafeVarargs
        final List<Fact> join(List<Fact>... lists) {
            List<Fact> all = new ArrayList<>();
            for (List<Fact> l : lists) {
                all.addAll(l);
            }
            return all;
        }

        List<Fact> chosen(Vessel v, long mask) {
            List<Fact> list = new ArrayList<>();
            for (int i = 0; i < v.says.size(); i++) {
                if ((mask >> i & 1) != 0) {
                    list.add(v.says.get(i));
                }
            }
            return list;
        }

        /** For each saying those it goes together with; itself only if sound. */
        long[] friends(Vessel v) {
            int n = v.says.size();
            long[] friends = new long[n];
            for (int i = 0; i < n; i++) {
                for (int j = 0; j < n; j++) {
                    boolean ok = i == j ? sound(v, v.says.get(i))
                            : together(v, v.says.get(i), v.says.get(j));
                    friends[i] |= ok ? 1L << j : 0;
                }
            }
            return friends;
        }

        static boolean close(long set, long[] friends) {
            for (int i = 0; i < friends.length; i++) {
                if ((set >> i & 1) != 0 && (set & ~friends[i]) != 0) {
                    return false;
                }
            }
            return true;
        }

        boolean withBooks(Vessel v, Fact f) {
            for (Fact b : v.bookFacts()) {
                if (!together(v, f, b)) {
                    return false;
                }
            }
            return true;
        }

        long booksOk(Vessel v) {
            long set = 0;
            for (int i = 0; i < v.says.size(); i++) {
                set |= withBooks(v, v.says.get(i)) ? 1L << i : 0;
            }
            return set;
        }

        long kept(int s) {
            if (keptMemo[s] == null) {
                keptMemo[s] = findKept(z.ships.get(s));
            }
            return keptMemo[s];
        }

        long findKept(Vessel v) {
            if (!fit(v, v.bookFacts())) {
                return 0;
            }
            long[] friends = friends(v);
            long open = booksOk(v);
            for (int i = 0; i < friends.length; i++) {
                open &= (friends[i] >> i & 1) != 0 ? -1L : ~(1L << i);
            }
            return grow(0, open, friends, 0);
        }

        /** Tries each set with these and others of the open ones, but none that can't be larger than the best. */
        static long grow(long set, long open, long[] friends, long best) {
            if (Long.bitCount(set) + Long.bitCount(open) <= Long.bitCount(best)) {
                return best;
            }
            if (open == 0) {
                return set;
            }
            long first = Long.lowestOneBit(open);
            long later = open & ~first;
            long with = grow(set | first, later & friends[Long.numberOfTrailingZeros(first)], friends, best);
            return grow(set, later, friends, with);
        }

        boolean may(int s, int hour, int cell) {
            if (mayMemo[s] == null) {
                mayMemo[s] = findMay(s);
            }
            return mayMemo[s][hour][cell];
        }

        boolean[][] findMay(int s) {
            Vessel v = z.ships.get(s);
            boolean[][] may = new boolean[48][z.columns * z.rows];
            List<Fact> facts = join(chosen(v, kept(s)), v.bookFacts());
            if (!fit(v, v.bookFacts())) {
                return may;
            }
            int cells = z.columns * z.rows;
            for (int c = 0; c < cells; c++) {
                int[] far = new int[facts.size()];
                for (int k = 0; k < far.length; k++) {
                    far[k] = far(v, c, facts.get(k).cell);
                }
                for (int h = 0; h < 48; h++) {
                    boolean ok = water(v, c);
                    for (int k = 0; k < far.length; k++) {
                        int between = Math.abs(h - facts.get(k).hour);
                        ok &= between == 0 ? c == facts.get(k).cell : far[k] >= 0 && far[k] <= between;
                    }
                    may[h][c] = ok;
                }
            }
            return may;
        }

        List<Integer> reach(int s, int hour) {
            List<Integer> list = new ArrayList<>();
            for (int c = 0; c < z.columns * z.rows; c++) {
                if (may(s, hour, c)) {
                    list.add(c);
                }
            }
            return list;
        }

        boolean honest(int s, int hour) {
            for (int c : reach(s, hour)) {
                if (z.quiet(c, hour)) {
                    return true;
                }
            }
            return false;
        }

        int between(int s) {
            List<Fact> f = z.ships.get(s).says;
            return f.size() < 2 ? 0 : f.get(f.size() - 1).hour - f.get(0).hour - 1;
        }

        int[] gaps(int s) {
            Vessel v = z.ships.get(s);
            int[] r = new int[2];
            if (v.says.isEmpty()) {
                return r;
            }
            for (int h = v.says.get(0).hour + 1; h < v.says.get(v.says.size() - 1).hour; h++) {
                if (!said(v, h)) {
                    r[0]++;
                    r[1] += honest(s, h) ? 0 : 1;
                }
            }
            return r;
        }

        int who(int s) {
            int bits = 0;
            Vessel v = z.ships.get(s);
            for (int o = 0; o < z.ships.size(); o++) {
                Vessel u = z.ships.get(o);
                if (o != s && !v.says.isEmpty() && fit(u, join(v.says, u.says, u.bookFacts()))) {
                    bits |= 1 << o;
                }
            }
            return bits;
        }

        boolean pair(int s) {
            Vessel v = z.ships.get(s);
            if (!fit(v, v.bookFacts())) {
                return false;
            }
            long[] friends = friends(v);
            long ok = booksOk(v);
            long all = (1L << v.says.size()) - 1;
            if ((all & ~ok) == 0 && close(all, friends)) {
                return false;
            }
            for (int i = 0; i < friends.length; i++) {
                if ((friends[i] >> i & 1) == 0) {
                    return false;
                }
            }
            return parts(0, 0, 0, ok, friends);
        }

        /** Whether those from i on can go into the one set or the other, each with all that are there. */
        static boolean parts(int i, long first, long second, long ok, long[] friends) {
            if (i == friends.length) {
                return first != 0 && second != 0;
            }
            long it = 1L << i;
            if ((ok & it) != 0 && Long.bitCount(friends[i]) == friends.length) {
                // As not all fit, the second set will not be empty for this one in the first.
                return parts(i + 1, first | it, second, ok, friends);
            }
            return (ok & it) != 0 && (first & ~friends[i]) == 0 && parts(i + 1, first | it, second, ok, friends)
                    || (second & ~friends[i]) == 0 && parts(i + 1, first, second | it, ok, friends);
        }

        boolean judge(int s, int kind) {
            Vessel v = z.ships.get(s);
            if (v.says.isEmpty()) {
                return false;
            }
            boolean all = fit(v, join(v.says, v.bookFacts()));
            int kept = Long.bitCount(kept(s));
            switch (kind) {
                case 0:
                    return all && gaps(s)[1] == 0;
                case 1:
                    return all && gaps(s)[1] > 0;
                case 2:
                    return who(s) != 0;
                case 3:
                    return pair(s);
                default:
                    return kept > 0 && kept < v.says.size();
            }
        }

        int tale(int s, int rival) {
            int seen = 0;
            for (int k = 0; k < 5; k++) {
                if (judge(s, k)) {
                    if (seen == rival) {
                        return k;
                    }
                    seen++;
                }
            }
            return -1;
        }

        int bars(int s) {
            Vessel v = z.ships.get(s);
            for (int i = 0; i < v.says.size(); i++) {
                if (!fit(v, join(v.says.subList(0, i + 1), v.bookFacts()))) {
                    return i;
                }
            }
            return -1;
        }

        int[] clash(int s) {
            Vessel v = z.ships.get(s);
            int n = v.says.size();
            for (int later = 0; later < n; later++) {
                Fact f = v.says.get(later);
                if (!sound(v, f) || !withBooks(v, f)) {
                    return new int[] {-1, later, f.hour};
                }
                for (int earlier = 0; earlier < later; earlier++) {
                    if (!together(v, v.says.get(earlier), f)) {
                        return new int[] {earlier, later, v.says.get(earlier).hour};
                    }
                }
            }
            return new int[] {-1, -1, -1};
        }

        boolean swap(int a, int b) {
            Vessel x = z.ships.get(a);
            Vessel y = z.ships.get(b);
            return fit(x, join(y.says, x.bookFacts())) && fit(y, join(x.says, y.bookFacts()));
        }

        boolean changes(int s, int hour, boolean from) {
            List<Fact> k = chosen(z.ships.get(s), kept(s));
            for (int i = 0; i + 1 < k.size(); i++) {
                if (k.get(i).laden == from && k.get(i + 1).laden != from
                        && k.get(i).hour < hour && hour < k.get(i + 1).hour) {
                    return true;
                }
            }
            return false;
        }

        int[] met(int a, int b) {
            int[] r = {0, -1, 0};
            for (int h = 0; h < 48; h++) {
                if (!changes(a, h, true) || !changes(b, h, false)) {
                    continue;
                }
                int cells = 0;
                for (int c : reach(a, h)) {
                    cells += may(b, h, c) ? 1 : 0;
                }
                if (cells > 0) {
                    r[0]++;
                    r[1] = r[1] < 0 ? h : r[1];
                    r[2] += cells;
                }
            }
            return r;
        }

        int explained(int i) {
            int[] g = z.sights.get(i);
            int bits = 0;
            for (int s = 0; s < z.ships.size(); s++) {
                bits |= z.ships.get(s).look == g[0] && may(s, g[2], g[1]) ? 1 << s : 0;
            }
            return bits;
        }

        long chance(int s) {
            int n = between(s);
            long[] q = new long[60];
            q[0] = 1000000000000L;
            for (int k = 0; k < n; k++) {
                long[] old = q.clone();
                for (int j = 0; j < q.length; j++) {
                    q[j] = (old[j] * (100 - z.luck) + (j == 0 ? 0 : old[j - 1] * z.luck)) / 100;
                }
            }
            long sum = 0;
            for (int j = gaps(s)[1]; j < q.length; j++) {
                sum += q[j];
            }
            return sum;
        }

        int settles(int hour, int cell) {
            int n = 0;
            for (int s = 0; s < z.ships.size(); s++) {
                n += !z.ships.get(s).says.isEmpty() && may(s, hour, cell) && reach(s, hour).size() > 1 ? 1 : 0;
            }
            return n;
        }

        int[] next() {
            int[] best = null;
            for (int h = 0; h < 48; h++) {
                for (int c = 0; c < z.columns * z.rows; c++) {
                    int n = settles(h, c);
                    if (n > 0 && (best == null || n > best[2]
                            || n == best[2] && z.cost(c) < z.cost(best[1]))) {
                        best = new int[] {h, c, n};
                    }
                }
            }
            return best == null ? new int[] {-1, -1, -1} : best;
        }

        int off(int s) {
            Vessel v = z.ships.get(s);
            int[] order = {0, -1, 1, -2, 2, -3, 3, -4, 4, -5, 5, -6, 6};
            for (int d : order) {
                List<Fact> moved = new ArrayList<>();
                for (Fact f : v.says) {
                    if (f.hour + d >= 0 && f.hour + d <= 47) {
                        moved.add(new Fact(f.hour + d, f.cell, true, f.laden));
                    }
                }
                if (!moved.isEmpty() && fit(v, join(moved, v.bookFacts()))) {
                    return d;
                }
            }
            return 100;
        }

        int image() {
            List<Integer> b = new ArrayList<>();
            b.add(z.sayings());
            for (int s = 0; s < z.ships.size(); s++) {
                for (Fact f : z.ships.get(s).says) {
                    b.addAll(Arrays.asList(s, f.hour, f.cell, f.laden ? 1 : 0));
                }
            }
            b.add(z.sights.size());
            for (int[] g : z.sights) {
                b.addAll(Arrays.asList(g[0], g[1], g[2]));
            }
            int c = 29;
            for (int x : b) {
                c = (3 * c + x) % 241;
            }
            b.add(c);
            image = new int[b.size()];
            for (int k = 0; k < image.length; k++) {
                image[k] = b.get(k);
            }
            return image.length;
        }
    }

    // ---- making up seas

    static final Random RANDOM = new Random(20261118);

    static int pick(int n) {
        return RANDOM.nextInt(n);
    }

    static String oneOf(String... words) {
        return words[pick(words.length)];
    }

    static String sumText(int depth) {
        switch (depth <= 0 ? pick(4) : pick(9)) {
            case 0:
                return Integer.toString(pick(30));
            case 1:
                return oneOf("column", "row");
            case 2:
                return oneOf("hour", "depth", "column", "row");
            case 3:
                return Integer.toString(pick(10) == 0 ? pick(10000) : pick(12));
            case 4:
                return "(" + sumText(depth - 1) + ")";
            case 5:
                return oneOf("min", "max") + "(" + sumText(depth - 1) + "," + sumText(depth - 1) + ")";
            default:
                return sumText(depth - 1) + oneOf("+", "-", "*", "/", "%", "+", " - ") + sumText(depth - 1);
        }
    }

    static String testText(int depth) {
        switch (depth <= 0 ? pick(3) : pick(8)) {
            case 0:
                return "all";
            case 1:
            case 2:
                return sumText(depth) + oneOf("<", ">", "=", " < ") + sumText(depth);
            case 3:
                return "not " + testText(depth - 1);
            case 4:
                return "[" + testText(depth - 1) + "]";
            case 5:
                return "[" + testText(depth - 1) + " or " + testText(depth - 1) + "]";
            case 6:
                return testText(depth - 1) + " or " + testText(depth - 1);
            default:
                return testText(depth - 1) + " and " + testText(depth - 1);
        }
    }

    static String seaText() {
        StringBuilder b = new StringBuilder();
        int columns = 2 + pick(pick(3) == 0 ? 15 : 6);
        int rows = 2 + pick(pick(3) == 0 ? 15 : 6);
        b.append("size ").append(columns).append(oneOf(" ", "\n", "  ")).append(rows).append(";");
        for (int k = pick(4); k > 0; k--) {
            b.append("depth ").append(sumText(2)).append(" when ").append(testText(2)).append(";");
        }
        for (int k = pick(3); k > 0; k--) {
            b.append("depth ").append(pick(4)).append(" when column=").append(pick(columns)).append(" and row>")
                    .append(pick(rows)).append(";");
        }
        b.append("depth ").append(10 + pick(30)).append(oneOf("", "+column", "-row", "+row*column%7"))
                .append(" when all;");
        for (int k = pick(3); k > 0; k--) {
            b.append("cost ").append(sumText(2)).append(" when ").append(testText(2)).append(";");
        }
        for (int k = pick(4); k > 0; k--) {
            b.append(oneOf("quiet when hour%" + (2 + pick(6)) + "<" + (1 + pick(2)), "quiet when row=" + pick(rows),
                    "quiet when " + testText(2), "quiet when depth>" + pick(30) + " and hour>" + pick(40))).append(";");
        }
        int ships = 1 + pick(pick(4) == 0 ? 8 : 4);
        for (int s = 0; s < ships; s++) {
            b.append("ship ").append(nameOf(s)).append(" look ").append(pick(3)).append(" speed ")
                    .append(1 + pick(4)).append(" draft ").append(1 + pick(20)).append(" load ")
                    .append(pick(12)).append(";");
        }
        if (pick(3) > 0) {
            b.append("luck ").append(pick(pick(2) == 0 ? 101 : 20)).append(";\n");
        }
        Set<Integer> used = new HashSet<>();
        int style = pick(3);
        for (int k = pick(28); k > 0; k--) {
            int s = pick(ships);
            int hour = pick(style == 0 ? 12 : 48);
            if (!used.add(s * 48 + hour)) {
                continue;
            }
            int column = style == 2 ? Math.min(columns - 1, hour / 4) : pick(columns);
            int row = style == 2 ? Math.min(rows - 1, pick(2)) : pick(rows);
            b.append("says ").append(nameOf(s)).append(" ").append(hour).append(" at ").append(column).append(" ")
                    .append(row).append(" laden ").append(pick(3) == 0 ? 1 : 0).append(";");
        }
        for (int k = pick(4); k > 0; k--) {
            int from = pick(48);
            b.append("book ").append(nameOf(pick(ships))).append(" at ").append(pick(columns)).append(" ")
                    .append(pick(rows)).append(" from ").append(from).append(" to ")
                    .append(Math.min(47, from + pick(5))).append(";");
        }
        for (int k = pick(6); k > 0; k--) {
            b.append("seen ").append(pick(4)).append(" at ").append(pick(columns)).append(" ").append(pick(rows))
                    .append(" hour ").append(pick(48)).append(oneOf(";", "\n;"));
        }
        return b.toString();
    }

    static String nameOf(int s) {
        return new String[] {"owl", "kite", "a", "tern", "abcdef", "zz", "gull", "shipp"}[s];
    }

    static String mutate(String text) {
        StringBuilder b = new StringBuilder(text);
        for (int k = 1 + pick(2); k > 0 && b.length() > 2; k--) {
            int at = pick(b.length());
            switch (pick(7)) {
                case 0:
                    b.deleteCharAt(at);
                    break;
                case 1:
                    b.insert(at, oneOf(" ", "a", "7", ";", "(", ")", "[", "]", "\n", "\t", "A", "é", "<", "=", "+", ","));
                    break;
                case 2:
                    b.setCharAt(at, oneOf(" ", "a", "7", ";", "(", "]", "\n", "9", "0", "*").charAt(0));
                    break;
                case 3:
                    b.setLength(at);
                    break;
                case 4: {
                    int end = Math.min(b.length(), at + 1 + pick(8));
                    b.insert(end, b.substring(at, end));
                    break;
                }
                case 5: {
                    int semi = b.indexOf(";", at);
                    int last = b.lastIndexOf(";", at);
                    if (semi > 0 && last >= 0 && last < semi) {
                        String one = b.substring(last + 1, semi + 1);
                        for (int n = oneOf("1", "1", "13").length() * 1 + pick(13); n > 0; n--) {
                            b.insert(semi + 1, one);
                        }
                    }
                    break;
                }
                default:
                    b.insert(at, oneOf("12345", "abcdefg", " not ", " or ", " size ", " depth ", "((((((((", "[[[[[[[[[",
                            " 48 ", " 16 ", " owl ", ";luck 101;", ";luck 100;", ";size 5 5;"));
                    break;
            }
        }
        return b.toString();
    }

    // ---- comparing

    static void put(ToldTracks x, Model m, int[] bytes) {
        int n = 0;
        int[] five = new int[5];
        for (int k = 0; k < (bytes.length + 19) / 20; k++) {
            Arrays.fill(five, 0);
            for (int i = 0; i < 20; i++) {
                int at = k * 20 + i;
                five[i / 4] = five[i / 4] << 8 | (at < bytes.length ? bytes[at] & 255 : 32);
            }
            n += 20;
            if (n <= 1800) {
                same("feed", x.feed(five[0], five[1], five[2], five[3], five[4]), n);
            }
        }
        int length = Math.min(bytes.length, 1800);
        same("end", x.end(length) ? 1 : 0, 1);
        m.tape.setLength(0);
        for (int k = 0; k < length; k++) {
            m.tape.append((char) (bytes[k] & 255));
        }
    }

    static void putText(ToldTracks x, Model m, String text) {
        int[] bytes = new int[text.length()];
        for (int k = 0; k < bytes.length; k++) {
            bytes[k] = text.charAt(k);
        }
        put(x, m, bytes);
    }

    static int bit(boolean b) {
        return b ? 1 : 0;
    }

    static void compareShip(ToldTracks x, Model m, int s) {
        Vessel v = m.z.ships.get(s);
        long kept = m.kept(s);
        int n = v.says.size();
        int[] whats = {v.look, v.speed, v.draft, v.load, n, Long.bitCount(kept), n - Long.bitCount(kept),
            v.books.size(), bit(m.fit(v, v.bookFacts()))};
        for (int w = 0; w < whats.length; w++) {
            same("ship " + s + " " + w, x.ship(s, w), whats[w]);
        }
        for (int k = 0; k < 7; k++) {
            same("letter", x.letter(s, k), k < v.name.length() ? v.name.charAt(k) : -1);
        }
        for (int i = 0; i < n; i++) {
            Fact f = v.says.get(i);
            int[] told = {f.hour, f.cell, bit(f.laden), bit(m.sound(v, f)), (int) (kept >> i & 1)};
            for (int w = 0; w < told.length; w++) {
                same("saying " + s + " " + i + " " + w, x.saying(s, i, w), told[w]);
            }
            int j = pick(n);
            same("can", x.can(s, i, j), i == j ? -1 : bit(m.together(v, f, v.says.get(j))));
        }
        for (int k = 0; k < 5; k++) {
            same("judge " + s + " " + k, x.judge(s, k), bit(m.judge(s, k)));
            same("tale " + s + " " + k, x.tale(s, k), m.tale(s, k));
        }
        same("bars " + s, x.bars(s), m.bars(s));
        int[] clash = m.clash(s);
        for (int w = 0; w < 3; w++) {
            same("clash " + s + " " + w, x.clash(s, w), clash[w]);
        }
        same("who " + s, x.who(s), m.who(s));
        int[] gaps = m.gaps(s);
        same("gaps " + s + " 0", x.gaps(s, 0), gaps[0]);
        same("gaps " + s + " 1", x.gaps(s, 1), gaps[1]);
        same("chance " + s, x.chance(s), m.chance(s));
        same("off " + s, x.off(s), m.off(s));
        for (int k = 0; k < 6; k++) {
            int hour = pick(48);
            List<Integer> reach = m.reach(s, hour);
            same("reach count " + s + " " + hour, x.reach(s, hour, -1), reach.size());
            int which = pick(reach.size() + 2);
            same("reach " + s + " " + hour + " " + which, x.reach(s, hour, which),
                    which < reach.size() ? reach.get(which) : -1);
            int c = pick(m.z.columns * m.z.rows);
            int d = pick(m.z.columns * m.z.rows);
            same("may", x.may(s, hour, c % m.z.columns, c / m.z.columns), bit(m.may(s, hour, c)));
            same("far", x.far(s, c % m.z.columns, c / m.z.columns, d % m.z.columns, d / m.z.columns), m.far(v, c, d));
        }
        int o = pick(m.z.ships.size());
        boolean can = o != s && n > 0 && !m.z.ships.get(o).says.isEmpty();
        same("swap " + s + " " + o, x.swap(s, o), can ? bit(m.swap(s, o)) : -1);
        int[] met = o == s ? new int[] {-1, -1, -1} : m.met(s, o);
        for (int w = 0; w < 3; w++) {
            same("met " + s + " " + o + " " + w, x.met(s, o, w), met[w]);
        }
    }

    static void compareAll(ToldTracks x, Model m) {
        State z = m.z;
        int sayers = 0;
        int lies = 0;
        int[] kinds = new int[6];
        int whose = 0;
        int beyond = 0;
        for (int s = 0; s < z.ships.size(); s++) {
            int n = z.ships.get(s).says.size();
            sayers += n > 0 ? 1 : 0;
            int lying = n - Long.bitCount(m.kept(s));
            lies += lying;
            if (n > 0) {
                kinds[m.tale(s, 0) + 1]++;
            }
            int off = m.off(s);
            whose |= lying > 0 && off != 100 && off != 0 ? 1 << s : 0;
            beyond |= m.gaps(s)[1] > 0 && m.chance(s) * z.ships.size() < 50000000000L ? 1 << s : 0;
        }
        int[] has = {z.columns, z.rows, z.ships.size(), z.sayings(), z.bookCount(), z.sights.size(), z.luck, sayers};
        for (int w = 0; w < has.length; w++) {
            same("has " + w, x.has(w), has[w]);
        }
        for (int k = -1; k < 5; k++) {
            same("kinds " + k, x.kinds(k), kinds[k + 1]);
        }
        same("lies", x.lies(), lies);
        same("whose", x.whose(), whose);
        same("beyond", x.beyond(), beyond);
        int strange = 0;
        int doubted = 0;
        for (int i = 0; i < z.sights.size(); i++) {
            int e = m.explained(i);
            same("sighting", x.sighting(i, 3), e);
            for (int w = 0; w < 3; w++) {
                same("sighting", x.sighting(i, w), z.sights.get(i)[w]);
            }
            strange += e == 0 ? 1 : 0;
            for (int s = 0; s < z.ships.size(); s++) {
                doubted |= e == 0 && z.ships.get(s).look == z.sights.get(i)[0] && m.judge(s, 0) ? 1 << s : 0;
            }
        }
        same("strange", x.strange(), strange);
        same("doubted", x.doubted(), doubted);
        int[] next = m.next();
        for (int w = 0; w < 3; w++) {
            same("next " + w, x.next(w), next[w]);
        }
        for (int k = 0; k < 8; k++) {
            int hour = pick(48);
            int c = pick(z.columns * z.rows);
            int col = c % z.columns;
            int row = c / z.columns;
            same("settles", x.settles(hour, col, row), m.settles(hour, c));
            same("cell 0 " + c, x.cell(col, row, hour, 0), z.depth(c));
            same("cell 1 " + c, x.cell(col, row, hour, 1), z.cost(c));
            same("cell 2 " + c, x.cell(col, row, hour, 2), bit(z.quiet(c, hour)));
        }
        for (int w = 0; w < 5; w++) {
            same("status " + w, x.status(w), m.refusals[w]);
        }
        for (int s = 0; s < z.ships.size(); s++) {
            compareShip(x, m, s);
        }
    }

    static void change(ToldTracks x, Model m) {
        State z = m.z;
        int s = pick(z.ships.size() + 1) - pick(2);
        boolean isShip = s >= 0 && s < z.ships.size();
        switch (pick(4)) {
            case 0:
            case 1: {
                int hour = pick(51) - 1;
                int col = pick(z.columns + 1) - pick(2);
                int row = pick(z.rows + 1) - pick(2);
                boolean laden = pick(2) == 0;
                boolean ok = isShip && hour >= 0 && hour < 48 && col >= 0 && col < z.columns && row >= 0
                        && row < z.rows && !said(z.ships.get(s), hour) && z.sayings() < 96;
                int want = -1;
                if (ok) {
                    Fact f = new Fact(hour, row * z.columns + col, true, laden);
                    insert(z.ships.get(s), f);
                    want = z.ships.get(s).says.indexOf(f);
                    m.changed();
                } else {
                    m.refusals[2]++;
                }
                same("add", x.add(s, hour, col, row, laden), want);
                break;
            }
            case 2: {
                int n = isShip ? z.ships.get(s).says.size() : 3;
                int i = pick(n + 1) - pick(2);
                int want = -1;
                if (isShip && i >= 0 && i < n) {
                    z.ships.get(s).says.remove(i);
                    want = n - 1;
                    m.changed();
                } else {
                    m.refusals[2]++;
                }
                same("drop", x.drop(s, i), want);
                break;
            }
            default: {
                int look = pick(6) - 1;
                int col = pick(z.columns + 1);
                int row = pick(z.rows + 1);
                int hour = pick(50) - 1;
                int want = -1;
                if (look >= 0 && look < 4 && col < z.columns && row < z.rows && hour >= 0 && hour < 48
                        && z.sights.size() < 40) {
                    z.sights.add(new int[] {look, row * z.columns + col, hour});
                    want = z.sights.size();
                } else {
                    m.refusals[3]++;
                }
                same("spot", x.spot(look, col, row, hour), want);
            }
        }
    }

    static boolean modelOn(Model m, int[] b) {
        State z = m.z;
        try {
            int at = 0;
            int n = b[at++];
            if (n > 96) {
                return false;
            }
            int last = -1;
            List<int[]> says = new ArrayList<>();
            for (int k = 0; k < n; k++, at += 4) {
                if (b[at] >= z.ships.size() || b[at + 1] > 47 || b[at + 2] >= z.columns * z.rows || b[at + 3] > 1
                        || b[at] * 48 + b[at + 1] <= last) {
                    return false;
                }
                last = b[at] * 48 + b[at + 1];
                says.add(new int[] {b[at], b[at + 1], b[at + 2], b[at + 3]});
            }
            int g = b[at++];
            if (g > 40) {
                return false;
            }
            List<int[]> sights = new ArrayList<>();
            for (int k = 0; k < g; k++, at += 3) {
                if (b[at] > 3 || b[at + 1] >= z.columns * z.rows || b[at + 2] > 47) {
                    return false;
                }
                sights.add(new int[] {b[at], b[at + 1], b[at + 2]});
            }
            int c = 29;
            for (int k = 0; k < at; k++) {
                c = (3 * c + b[k]) % 241;
            }
            if (b[at] != c || b.length != at + 1) {
                return false;
            }
            for (Vessel v : z.ships) {
                v.says.clear();
            }
            for (int[] y : says) {
                z.ships.get(y[0]).says.add(new Fact(y[1], y[2], true, y[3] == 1));
            }
            z.sights.clear();
            z.sights.addAll(sights);
            m.changed();
            return true;
        } catch (ArrayIndexOutOfBoundsException tooShort) {
            return false;
        }
    }

    static void images(ToldTracks x, Model m) {
        same("image", x.image(), m.image());
        for (int k = -1; k <= m.image.length; k++) {
            same("octet " + k, x.octet(k), k < 0 || k >= m.image.length ? -1 : m.image[k]);
        }
        int[] b = m.image.clone();
        int spoil = pick(4);
        if (spoil == 1) {
            b[pick(b.length)] = pick(3) == 0 ? pick(256) : pick(5);
        }
        if (spoil == 2) {
            b = Arrays.copyOf(b, b.length + pick(3) - 1);
        }
        if (spoil > 0 && b.length > 1 && pick(3) > 0) {
            int c = 29;
            for (int k = 0; k < b.length - 1; k++) {
                c = (3 * c + b[k]) % 241;
            }
            b[b.length - 1] = c;
        }
        change(x, m);
        put(x, m, b);
        boolean want = modelOn(m, b);
        if (!want) {
            m.refusals[4]++;
        }
        same("on", bit(x.on()), bit(want));
        same("end after on", bit(x.end(1)), 0);
        m.refusals[0]++;
    }

    /** Many sayings of few ships or of all, most of them not far from where the ship was told to be. */
    static void crowd(ToldTracks x, Model m) {
        State z = m.z;
        int ships = Math.min(z.ships.size(), 1 << pick(4));
        boolean near = pick(2) == 0;
        for (int k = 40 + pick(100); k > 0; k--) {
            int s = pick(ships);
            int hour = pick(48);
            int column = pick(z.columns);
            int row = pick(z.rows);
            if (near && pick(8) > 0) {
                column = Math.min(z.columns - 1, hour / 4 + pick(2));
                row = Math.min(z.rows - 1, s % 3);
            }
            Vessel v = z.ships.get(s);
            int want = -1;
            if (said(v, hour) || z.sayings() >= 96) {
                m.refusals[2]++;
            } else {
                Fact f = new Fact(hour, row * z.columns + column, true, pick(2) == 0);
                insert(v, f);
                want = v.says.indexOf(f);
                m.changed();
            }
            same("add", x.add(s, hour, column, row, want >= 0 && v.says.get(want).laden), want);
        }
    }

    public static void main(String[] args) {
        int rounds = args.length > 0 ? Integer.parseInt(args[0]) : 250;
        if (args.length > 1) {
            RANDOM.setSeed(Long.parseLong(args[1]));
        }
        int good = 0;
        int[] kinds = new int[6];
        for (int round = 0; round < rounds && wrong < 20; round++) {
            ToldTracks x = new ToldTracks();
            Model m = new Model();
            String text = seaText();
            for (int k = pick(12); k > 0; k--) {
                String bad = mutate(text);
                context = "round " + round + ": " + bad;
                putText(x, m, bad);
                same("sea", x.sea(), m.sea());
                same("fault 0", x.fault(0), m.fault);
                same("fault 1", x.fault(1), m.place);
                kinds[m.fault]++;
            }
            putText(x, m, text);
            context = "round " + round + ": " + text;
            same("sea", x.sea(), m.sea());
            same("fault 0", x.fault(0), m.fault);
            same("fault 1", x.fault(1), m.place);
            good += m.fault == 0 ? 1 : 0;
            if (m.z.columns == 0) {
                continue;
            }
            compareAll(x, m);
            if (round % 4 == 0) {
                crowd(x, m);
                compareAll(x, m);
            }
            for (int k = 0; k < 2; k++) {
                for (int c = pick(8); c > 0; c--) {
                    change(x, m);
                }
                compareAll(x, m);
                images(x, m);
                compareAll(x, m);
            }
        }
        System.out.println(calls + " calls compared, " + good + " seas, faults " + Arrays.toString(kinds) + ", wrong " + wrong);
        if (wrong != 0) {
            System.exit(1);
        }
    }
}
