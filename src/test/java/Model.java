import java.util.ArrayList;
import java.util.HashMap;
import java.util.HashSet;
import java.util.List;
import java.util.Map;
import java.util.Set;

/** The document once more, written another way and without a thought of speed, to be held against the class. */
final class Model {
    private static final int NONE = -1;
    private static final int[] DX = {0, 1, 0, -1, 0};
    private static final int[] DY = {0, 0, 1, 0, -1};
    private static final Set<String> WORDS = Set.of("row", "boat", "wind", "steers", "lies", "cold", "seed", "if",
        "then", "else", "hour", "east", "south", "blows", "smells", "near", "which", "strong", "placed");
    private static final Set<String> VARS = Set.of("hour", "east", "south", "blows", "smells", "near", "which",
        "strong", "placed");

    private interface Expr {
        int value(Map<String, Integer> vars);
    }

    private static final class ByZero extends RuntimeException {
        private static final long serialVersionUID = 1L;
    }

    private static final class Fault extends RuntimeException {
        private static final long serialVersionUID = 1L;
        final int number;
        final int place;

        Fault(int number, int place) {
            this.number = number;
            this.place = place;
        }
    }

    private record Token(String text, int place, char sort) {
    }

    private record Boat(String name, int x, int y, int strong, int nose) {
    }

    private record Hearsay(int pan, Set<Integer> dishes) {
    }

    private record Laying(int hour, int lies) {
    }

    private static final class Text {
        List<String> rows = new ArrayList<>();
        List<Boat> boats = new ArrayList<>();
        Map<String, Expr> laws = new HashMap<>(Map.of("wind", v -> 0, "steers", v -> 1, "lies", v -> 1));
        int cold = 0;
        int seed = 0;
        int rockMore = NONE;

        int width() {
            return rows.isEmpty() ? 0 : rows.get(0).length();
        }

        /** o, r, m, or a dot beyond the bay. */
        char at(int x, int y) {
            if (x < 0 || y < 0 || y >= rows.size() || x >= width()) {
                return '.';
            }
            return rockMore == 8 * y + x ? 'r' : rows.get(y).charAt(x);
        }

        int law(String name, Map<String, Integer> vars) {
            try {
                return laws.get(name).value(vars);
            } catch (ByZero zero) {
                return 0;
            }
        }
    }

    private static final class State {
        int hour = 0;
        int[][] at = new int[6][2];
        List<Integer> home = new ArrayList<>();
        Set<Integer> lost = new HashSet<>();
        Set<Integer> out = new HashSet<>();
        Map<List<Integer>, Laying> layings = new HashMap<>();

        State copy() {
            State s = new State();
            s.hour = hour;
            for (int k = 0; k < 6; k++) {
                s.at[k] = at[k].clone();
            }
            s.home.addAll(home);
            s.lost.addAll(lost);
            s.out.addAll(out);
            s.layings.putAll(layings);
            return s;
        }

        boolean sails(int k) {
            return !home.contains(k) && !lost.contains(k);
        }
    }

    private final List<Integer> tape = new ArrayList<>();
    private int place = NONE;
    private Text text = new Text();
    private State now = new State();
    private final List<State> past = new ArrayList<>();
    private final Map<Integer, State> slots = new HashMap<>();
    private final List<Hearsay> told = new ArrayList<>();

    // ---- reading ----

    public int feed(int a, int b, int c, int d, int e) {
        if (tape.size() > 1980) {
            return NONE;
        }
        for (int v : new int[] {a, b, c, d, e}) {
            for (int i = 3; i >= 0; i--) {
                tape.add(v >> 8 * i & 255);
            }
        }
        return tape.size();
    }

    public int back(int n) {
        if (n < 0 || n > tape.size()) {
            return NONE;
        }
        for (int i = 0; i < n; i++) {
            tape.remove(tape.size() - 1);
        }
        return tape.size();
    }

    public int place() {
        return place;
    }

    private List<Token> tokens;
    private int next;

    public int read() {
        StringBuilder all = new StringBuilder();
        for (int sign : tape) {
            all.append((char) sign);
        }
        tape.clear();
        try {
            Text read = parsed(all.toString());
            place = NONE;
            text = read;
            now = start(text);
            past.clear();
            slots.clear();
            told.clear();
            return 0;
        } catch (Fault fault) {
            place = fault.place;
            return fault.number;
        }
    }

    private static List<Token> split(String s) {
        List<Token> list = new ArrayList<>();
        int p = 0;
        while (p < s.length()) {
            if ("\t\n\r ".indexOf(s.charAt(p)) >= 0) {
                p++;
                continue;
            }
            int q = p + 1;
            char sort = '?';
            if (s.substring(p, q).matches("[a-z]")) {
                while (q < s.length() && s.substring(p, q + 1).matches("[a-z]+")) {
                    q++;
                }
                sort = q - p > 8 ? '?' : WORDS.contains(s.substring(p, q)) ? 'w' : 'n';
            } else if (s.substring(p, q).matches("[0-9]")) {
                while (q < s.length() && s.substring(p, q + 1).matches("[0-9]+")) {
                    q++;
                }
                sort = q - p > 4 ? '?' : 'i';
            } else if (s.substring(p, q).matches("[-;=+*/<()]")) {
                sort = 'w';
            }
            list.add(new Token(s.substring(p, q), p, sort));
            p = q;
        }
        list.add(new Token("", s.length(), 'e'));
        return list;
    }

    private boolean sees(String word) {
        return tokens.get(next).sort == 'w' && tokens.get(next).text.equals(word);
    }

    private Fault fault(int number) {
        return new Fault(number, tokens.get(next).place);
    }

    private Token take() {
        if (next >= 400) {
            throw fault(2);
        }
        return tokens.get(next++);
    }

    private Token need(String word) {
        if (!sees(word)) {
            throw fault(1);
        }
        return take();
    }

    private Token sort(char sort) {
        if (tokens.get(next).sort != sort) {
            throw fault(1);
        }
        return take();
    }

    private Text parsed(String s) {
        tokens = split(s);
        next = 0;
        Text made = new Text();
        List<Fault> flaws = new ArrayList<>();
        while (tokens.get(next).sort != 'e') {
            tell(made, flaws);
            need(";");
        }
        for (Boat b : made.boats) {
            if (made.at(b.x, b.y) != 'o' && made.at(b.x, b.y) != 'm') {
                flaws.add(new Fault(6, s.length()));
            }
        }
        flaws.sort((a, b) -> a.place != b.place ? a.place - b.place : a.number - b.number);
        if (!flaws.isEmpty()) {
            throw flaws.get(0);
        }
        return made;
    }

    private int ranged(int most, List<Fault> flaws) {
        Token t = sort('i');
        int v = Integer.parseInt(t.text);
        if (v > most) {
            flaws.add(new Fault(5, t.place));
        }
        return v;
    }

    private void tell(Text made, List<Fault> flaws) {
        if (sees("row")) {
            if (made.rows.size() == 5) {
                throw fault(2);
            }
            take();
            Token t = sort('n');
            if (!t.text.matches("[orm]*") || !made.rows.isEmpty() && made.width() != t.text.length()) {
                flaws.add(new Fault(6, t.place));
            }
            made.rows.add((t.text + "rrrrrrrr").substring(0, made.rows.isEmpty() ? t.text.length() : made.width()));
        } else if (sees("boat")) {
            if (made.boats.size() == 6) {
                throw fault(2);
            }
            take();
            Token t = sort('n');
            if (made.boats.stream().anyMatch(b -> b.name.equals(t.text))) {
                flaws.add(new Fault(3, t.place));
            }
            made.boats.add(new Boat(t.text, ranged(9, flaws), ranged(9, flaws), ranged(9, flaws), ranged(9, flaws)));
        } else if (sees("wind") || sees("steers") || sees("lies")) {
            String name = take().text;
            need("=");
            made.laws.put(name, law(0));
        } else if (sees("cold")) {
            take();
            made.cold = ranged(100, flaws);
        } else if (sees("seed")) {
            take();
            made.seed = ranged(9999, flaws);
        } else {
            throw fault(1);
        }
    }

    private Expr law(int ifs) {
        if (!sees("if")) {
            return sum(0);
        }
        if (ifs == 4) {
            throw fault(2);
        }
        take();
        Expr a = sum(0);
        need("<");
        Expr b = sum(0);
        need("then");
        Expr c = sum(0);
        need("else");
        Expr rest = law(ifs + 1);
        return v -> a.value(v) < b.value(v) ? c.value(v) : rest.value(v);
    }

    private Expr sum(int open) {
        Expr left = product(open);
        while (sees("+") || sees("-")) {
            boolean plus = take().text.equals("+");
            Expr a = left;
            Expr b = product(open);
            left = plus ? v -> a.value(v) + b.value(v) : v -> a.value(v) - b.value(v);
        }
        return left;
    }

    private Expr product(int open) {
        Expr left = unit(open);
        while (sees("*") || sees("/")) {
            boolean times = take().text.equals("*");
            Expr a = left;
            Expr b = unit(open);
            left = times ? v -> a.value(v) * b.value(v) : v -> divided(a.value(v), b.value(v));
        }
        return left;
    }

    private static int divided(int a, int b) {
        if (b == 0) {
            throw new ByZero();
        }
        return a / b;
    }

    private Expr unit(int open) {
        Token t = tokens.get(next);
        if (t.sort == 'i') {
            take();
            int n = Integer.parseInt(t.text);
            return v -> n;
        }
        if (t.sort == 'w' && VARS.contains(t.text)) {
            take();
            return v -> v.getOrDefault(t.text, 0);
        }
        if (!sees("(")) {
            throw fault(1);
        }
        if (open == 6) {
            throw fault(2);
        }
        take();
        Expr inner = sum(open + 1);
        need(")");
        return inner;
    }

    // ---- the rules ----

    private static int wind(Text t, int hour) {
        return Math.max(0, t.law("wind", Map.of("hour", hour))) % 4 + 1;
    }

    private static State start(Text t) {
        State s = new State();
        for (int k = 0; k < t.boats.size(); k++) {
            s.at[k] = new int[] {t.boats.get(k).x, t.boats.get(k).y};
            if (t.at(s.at[k][0], s.at[k][1]) == 'm') {
                s.home.add(k);
            }
        }
        lay(t, s);
        return s;
    }

    private static List<int[]> plume(Text t, int x, int y, int strong, int way) {
        List<int[]> cells = new ArrayList<>();
        cells.add(new int[] {x, y});
        for (int i = 1; i <= strong; i++) {
            char c = t.at(x + i * DX[way], y + i * DY[way]);
            if (c == '.' || c == 'r') {
                break;
            }
            cells.add(new int[] {x + i * DX[way], y + i * DY[way]});
        }
        return cells;
    }

    private static void lay(Text t, State s) {
        for (int k = 0; k < t.boats.size(); k++) {
            if (!s.sails(k) || s.out.contains(k)) {
                continue;
            }
            int strong = t.boats.get(k).strong;
            for (int[] c : plume(t, s.at[k][0], s.at[k][1], strong, wind(t, s.hour))) {
                int lies = t.law("lies", Map.of("hour", s.hour, "strong", strong, "which", k, "east", c[0], "south", c[1]));
                s.layings.put(List.of(k, c[0], c[1]), new Laying(s.hour, Math.max(0, Math.min(9, lies))));
            }
        }
    }

    private static boolean lies(State s, int dish, int x, int y) {
        Laying l = s.layings.get(List.of(dish, x, y));
        return l != null && s.hour <= l.hour + l.lies;
    }

    private static int lot(int n, int seed, int which) {
        long h = seed;
        for (long it : new long[] {69, which}) {
            h = ((h ^ it) * 1103515245L + 12345L) & 0xffffffffL;
            h = h ^ (h / 32768);
        }
        return (int) (h / 2 % n);
    }

    private static boolean cold(Text t, State s, int k, int seed) {
        return lot(100, seed, 16 * s.hour + k) < t.cold;
    }

    private static Set<Integer> smells(Text t, State s, int k, int seed) {
        Set<Integer> found = new HashSet<>();
        if (!s.sails(k) || cold(t, s, k, seed)) {
            return found;
        }
        for (int d = 0; d < t.boats.size(); d++) {
            if (d != k && lies(s, d, s.at[k][0], s.at[k][1])
                && s.hour - s.layings.get(List.of(d, s.at[k][0], s.at[k][1])).hour <= t.boats.get(k).nose) {
                found.add(d);
            }
        }
        return found;
    }

    private static int way(Text t, State s, int k, int seed) {
        Set<Integer> dishes = smells(t, s, k, seed);
        Map<String, Integer> vars = new HashMap<>();
        vars.put("hour", s.hour);
        vars.put("east", s.at[k][0]);
        vars.put("south", s.at[k][1]);
        vars.put("blows", wind(t, s.hour));
        vars.put("smells", dishes.size());
        vars.put("near", dishes.stream().min(Integer::compare).orElse(-1));
        vars.put("which", k);
        vars.put("strong", t.boats.get(k).strong);
        vars.put("placed", s.home.size());
        return Math.max(0, t.law("steers", vars)) % 5;
    }

    private static int move(Text t, State s, int k, int way) {
        int x = s.at[k][0] + DX[way];
        int y = s.at[k][1] + DY[way];
        char c = t.at(x, y);
        if (c == '.' || way == 0) {
            return 3;
        }
        s.at[k] = new int[] {x, y};
        if (c == 'r') {
            s.lost.add(k);
        } else if (c == 'm') {
            s.home.add(k);
        }
        return c == 'r' ? 2 : c == 'm' ? 1 : 0;
    }

    private static void hour(Text t, State s, int seed, int nowhere) {
        Map<Integer, Integer> ways = new HashMap<>();
        for (int k = 0; k < t.boats.size(); k++) {
            if (s.sails(k) && k != nowhere) {
                ways.put(k, way(t, s, k, seed));
            }
        }
        for (int k = 0; k < t.boats.size(); k++) {
            if (ways.containsKey(k)) {
                move(t, s, k, ways.get(k));
            }
        }
        s.hour++;
        boolean fries = nowhere != NONE && s.out.add(nowhere);
        lay(t, s);
        if (fries) {
            s.out.remove(nowhere);
        }
    }

    private State in(int n) {
        State s = now.copy();
        for (int i = 0; i < n; i++) {
            hour(text, s, text.seed, NONE);
        }
        return s;
    }

    private static int bits(Iterable<Integer> set) {
        int found = 0;
        for (int k : set) {
            found |= 1 << k;
        }
        return found;
    }

    private int boats() {
        return text.boats.size();
    }

    private boolean isBoat(int k) {
        return k >= 0 && k < boats();
    }

    private List<Integer> ranks(State s) {
        List<Integer> order = new ArrayList<>(s.home);
        for (int x = 7; x >= 0; x--) {
            for (int k = 0; k < boats(); k++) {
                if (s.sails(k) && s.at[k][0] == x) {
                    order.add(k);
                }
            }
        }
        for (int k = 0; k < boats(); k++) {
            if (s.lost.contains(k)) {
                order.add(k);
            }
        }
        return order;
    }

    private static int where(State s, int boat, int what) {
        if (what == 2) {
            return s.home.contains(boat) ? s.home.indexOf(boat) + 1 : -2;
        }
        return s.lost.contains(boat) ? -2 : s.at[boat][what];
    }

    // ---- what is ----

    public int boat(int boat, int what) {
        if (!isBoat(boat) || what < 0 || what > 7) {
            return NONE;
        }
        return switch (what) {
            case 3 -> now.lost.contains(boat) ? 1 : 0;
            case 4 -> now.out.contains(boat) ? 0 : 1;
            case 5 -> bits(smells(text, now, boat, text.seed));
            case 6 -> cold(text, now, boat, text.seed) ? 1 : 0;
            case 7 -> ranks(now).indexOf(boat);
            default -> where(now, boat, what);
        };
    }

    public int cell(int x, int y, int what) {
        if (text.at(x, y) == '.' || what < 0 || what > 2) {
            return NONE;
        }
        if (what == 0) {
            return "orm".indexOf(text.at(x, y));
        }
        int found = 0;
        for (int k = 0; k < boats(); k++) {
            boolean there = now.sails(k) && now.at[k][0] == x && now.at[k][1] == y;
            if (what == 1 ? lies(now, k, x, y) : there) {
                found += 1 << k;
            }
        }
        return found;
    }

    public int laid(int x, int y, int dish, boolean till) {
        if (text.at(x, y) == '.' || !isBoat(dish)) {
            return NONE;
        }
        Laying l = now.layings.get(List.of(dish, x, y));
        return l == null ? -2 : till ? l.hour + l.lies : l.hour;
    }

    public int wind(int hour) {
        return hour < 0 || hour > 999 ? NONE : wind(text, hour);
    }

    public int steers(int boat) {
        return !isBoat(boat) ? NONE : now.sails(boat) ? way(text, now, boat, text.seed) : -2;
    }

    // ---- what is done ----

    private void keep() {
        past.add(now.copy());
        if (past.size() > 30) {
            past.remove(0);
        }
    }

    public int hours(int n) {
        if (n < 0 || n > 100) {
            return NONE;
        }
        if (n != 0) {
            keep();
            now = in(n);
        }
        return now.hour;
    }

    public int go(int boat, int way) {
        if (!isBoat(boat) || way < 1 || way > 4) {
            return NONE;
        }
        if (!now.sails(boat)) {
            return -2;
        }
        keep();
        return move(text, now, boat, way);
    }

    public boolean pan(int boat, boolean on) {
        if (!isBoat(boat) || on != now.out.contains(boat)) {
            return false;
        }
        keep();
        if (on) {
            now.out.remove(boat);
        } else {
            now.out.add(boat);
        }
        return true;
    }

    public boolean undo() {
        if (past.isEmpty()) {
            return false;
        }
        now = past.remove(past.size() - 1);
        return true;
    }

    // ---- what would be ----

    public int then(int boat, int n, int what) {
        return !isBoat(boat) || n < 0 || n > 100 || what < 0 || what > 2 ? NONE : where(in(n), boat, what);
    }

    public int many(int n, boolean lost) {
        return n < 0 || n > 100 ? NONE : lost ? in(n).lost.size() : in(n).home.size();
    }

    public int ranked(int rank) {
        return rank < 0 || rank >= boats() ? NONE : ranks(now).get(rank);
    }

    /** From a cell: the fewest hours, by trying all ways up to a number of hours; -2 if there is none. */
    private int fewest(int x, int y, int most) {
        Set<List<Integer>> at = new HashSet<>();
        at.add(List.of(x, y));
        for (int t = 0; t <= most; t++) {
            Set<List<Integer>> then = new HashSet<>();
            for (List<Integer> c : at) {
                if (text.at(c.get(0), c.get(1)) == 'm') {
                    return t;
                }
                for (int way = 0; way < 5; way++) {
                    char kind = text.at(c.get(0) + DX[way], c.get(1) + DY[way]);
                    if (kind != '.' && kind != 'r') {
                        then.add(List.of(c.get(0) + DX[way], c.get(1) + DY[way]));
                    }
                }
            }
            at = then;
        }
        return -2;
    }

    public int soonest(int boat) {
        if (!isBoat(boat)) {
            return NONE;
        }
        return now.lost.contains(boat) ? -2 : fewest(now.at[boat][0], now.at[boat][1], 40);
    }

    public int route(int boat, int i) {
        if (!isBoat(boat) || i < 0) {
            return NONE;
        }
        int left = soonest(boat);
        if (left <= 0) {
            return -2;
        }
        if (i >= left) {
            return NONE;
        }
        int x = now.at[boat][0];
        int y = now.at[boat][1];
        for (int j = 0; ; j++) {
            int way = 0;
            while (text.at(x + DX[way], y + DY[way]) == '.' || text.at(x + DX[way], y + DY[way]) == 'r'
                || fewest(x + DX[way], y + DY[way], 40) != left - 1) {
                way++;
            }
            if (j == i) {
                return way;
            }
            x += DX[way];
            y += DY[way];
            left--;
        }
    }

    /** All others as they go without a boat, behind 0 .. 40 hours. */
    private List<State> without(int boat) {
        List<State> list = new ArrayList<>();
        State s = now.copy();
        for (int t = 0; t <= 40; t++) {
            list.add(s.copy());
            hour(text, s, text.seed, boat);
        }
        return list;
    }

    public int hidden(int boat) {
        if (!isBoat(boat) || !now.sails(boat)) {
            return !isBoat(boat) ? NONE : now.home.contains(boat) ? 0 : -2;
        }
        List<State> others = without(boat);
        Set<List<Integer>> at = new HashSet<>();
        at.add(List.of(now.at[boat][0], now.at[boat][1]));
        for (int t = 1; t <= 40; t++) {
            Set<List<Integer>> then = new HashSet<>();
            for (List<Integer> c : at) {
                for (int way = 0; way < 5; way++) {
                    int x = c.get(0) + DX[way];
                    int y = c.get(1) + DY[way];
                    if (text.at(x, y) == 'm') {
                        return t;
                    }
                    if (text.at(x, y) == 'o' && !isSmelt(others.get(t), boat, x, y)) {
                        then.add(List.of(x, y));
                    }
                }
            }
            at = then;
        }
        return -2;
    }

    private boolean isSmelt(State others, int boat, int x, int y) {
        for (int[] c : plume(text, x, y, text.boats.get(boat).strong, wind(text, others.hour))) {
            for (int k = 0; k < boats(); k++) {
                if (k != boat && others.sails(k) && others.at[k][0] == c[0] && others.at[k][1] == c[1]) {
                    return true;
                }
            }
        }
        return false;
    }

    public int inPlace(int boat, int p) {
        if (!isBoat(boat) || p < 1 || p > 6) {
            return NONE;
        }
        int least = soonest(boat);
        if (least <= 0) {
            return -2;
        }
        List<State> others = without(boat);
        for (int t = least; t <= 40; t++) {
            int ahead = 0;
            for (int k : others.get(t).home) {
                if (k < boat || others.get(t - 1).home.contains(k)) {
                    ahead++;
                }
            }
            if (ahead == p - 1) {
                return t;
            }
        }
        return -2;
    }

    public int smelt(int boat, int other) {
        if (!isBoat(boat) || !isBoat(other) || boat == other) {
            return NONE;
        }
        State s = now.copy();
        for (int t = 0; t <= 100; t++) {
            if (smells(text, s, boat, text.seed).contains(other)) {
                return t;
            }
            hour(text, s, text.seed, NONE);
        }
        return -2;
    }

    public int bare(int n) {
        if (n < 0 || n > 100) {
            return NONE;
        }
        State s = in(n);
        int found = 0;
        for (int y = 0; y < 5; y++) {
            for (int x = 0; x < 8; x++) {
                boolean none = true;
                for (int k = 0; k < boats(); k++) {
                    none &= !lies(s, k, x, y);
                }
                found += text.at(x, y) == 'o' && none ? 1 : 0;
            }
        }
        return found;
    }

    public int met(int boat, int other, int n) {
        if (!isBoat(boat) || !isBoat(other) || boat == other || n < 1 || n > 100) {
            return NONE;
        }
        State s = now.copy();
        int found = 0;
        for (int t = 1; t <= n; t++) {
            hour(text, s, text.seed, NONE);
            if (s.sails(boat) && s.sails(other) && s.at[boat][0] == s.at[other][0] && s.at[boat][1] == s.at[other][1]) {
                found++;
            }
        }
        return found;
    }

    public int leader(int n) {
        return n < 0 || n > 100 ? NONE : boats() == 0 ? -2 : ranks(in(n)).get(0);
    }

    private Set<Integer> smelling(int set) {
        Set<Integer> found = new HashSet<>();
        for (int k = 0; k < boats(); k++) {
            for (int c = 0; c < 40; c++) {
                if ((set >> k & 1) == 1 && text.at(c % 8, c / 8) == 'o' && lies(now, k, c % 8, c / 8)) {
                    found.add(c);
                }
            }
        }
        return found;
    }

    public int cover(int what) {
        if (what < 0 || what > 2) {
            return NONE;
        }
        int all = 0;
        for (int k = 0; k < boats(); k++) {
            all |= now.sails(k) && !now.out.contains(k) ? 1 << k : 0;
        }
        int whole = smelling(all).size();
        for (int size = 0; size <= 6; size++) {
            for (int set = 0; set < 64; set++) {
                if ((set & all) == set && Integer.bitCount(set) == size && smelling(set).size() == whole) {
                    return what == 0 ? size : what == 1 ? set : whole;
                }
            }
        }
        throw new IllegalStateException();
    }

    /** How far to the east each boat is behind n hours, if a set of them puts the pans out. */
    private int[] east(int set, int n) {
        State s = now.copy();
        for (int k = 0; k < 6; k++) {
            if ((set >> k & 1) == 1) {
                s.out.add(k);
            }
        }
        for (int i = 0; i < n; i++) {
            hour(text, s, text.seed, NONE);
        }
        int[] far = new int[boats()];
        for (int k = 0; k < boats(); k++) {
            far[k] = s.lost.contains(k) ? -1 : s.home.contains(k) ? 1000 : s.at[k][0];
        }
        return far;
    }

    public int out(int n, int i) {
        if (n < 1 || n > 24 || i < -1) {
            return NONE;
        }
        List<Integer> rests = new ArrayList<>();
        List<int[]> far = new ArrayList<>();
        for (int set = 0; set < 1 << boats(); set++) {
            far.add(east(set, n));
        }
        for (int set = 0; set < 1 << boats(); set++) {
            boolean rest = true;
            for (int k = 0; k < boats(); k++) {
                boolean chosen = (set >> k & 1) == 1;
                if (now.out.contains(k)) {
                    rest &= !chosen;
                } else {
                    rest = rest && far.get(set ^ 1 << k)[k] <= far.get(set)[k];
                }
            }
            if (rest) {
                rests.add(set);
            }
        }
        return i == -1 ? rests.size() : i < rests.size() ? rests.get(i) : NONE;
    }

    public int odds(int boat, int n, int s) {
        if (!isBoat(boat) || n < 0 || n > 100 || s < 1 || s > 20) {
            return NONE;
        }
        int found = 0;
        for (int seed = text.seed; seed < text.seed + s; seed++) {
            State then = now.copy();
            for (int i = 0; i < n; i++) {
                hour(text, then, seed, NONE);
            }
            found += then.home.contains(boat) ? 1 : 0;
        }
        return found;
    }

    public int lost(int what) {
        if (what != 0 && what != 1) {
            return NONE;
        }
        for (int n = 1; n <= 100; n++) {
            State s = in(n);
            for (int k = 0; k < boats(); k++) {
                if (s.lost.contains(k) && !now.lost.contains(k)) {
                    return what == 0 ? k : n;
                }
            }
        }
        return -2;
    }

    // ---- what can be known ----

    public int tell(int boat, int pan) {
        if (told.size() == 20 || !isBoat(boat) || !isBoat(pan)) {
            return NONE;
        }
        told.add(new Hearsay(pan, smells(text, now, boat, text.seed)));
        return told.size() - 1;
    }

    public int forget() {
        int size = told.size();
        told.clear();
        return size;
    }

    private void ways(List<Integer> owners, int k, List<List<Integer>> found) {
        if (owners.size() == boats()) {
            for (Hearsay h : told.subList(0, k)) {
                if (!h.dishes.contains(owners.get(h.pan))) {
                    return;
                }
            }
            found.add(new ArrayList<>(owners));
            return;
        }
        for (int b = 0; b < boats(); b++) {
            if (!owners.contains(b)) {
                owners.add(b);
                ways(owners, k, found);
                owners.remove(owners.size() - 1);
            }
        }
    }

    public int fried(int k) {
        if (k < 0 || k > told.size()) {
            return NONE;
        }
        List<List<Integer>> found = new ArrayList<>();
        ways(new ArrayList<>(), k, found);
        return found.size();
    }

    public int sure(int k, int pan) {
        if (k < 0 || k > told.size() || !isBoat(pan)) {
            return NONE;
        }
        List<List<Integer>> found = new ArrayList<>();
        ways(new ArrayList<>(), k, found);
        Set<Integer> owners = new HashSet<>();
        for (List<Integer> way : found) {
            owners.add(way.get(pan));
        }
        return owners.size() == 1 ? owners.iterator().next() : -2;
    }

    public int rock(int n, int set, int i) {
        if (n < 1 || n > 60 || set < 0 || set >= 1 << boats() || i < -1) {
            return NONE;
        }
        List<Integer> found = new ArrayList<>();
        for (int c = 0; c < 40; c++) {
            int cell = c;
            if (text.at(c % 8, c / 8) != 'o' || text.boats.stream().anyMatch(b -> 8 * b.y + b.x == cell)) {
                continue;
            }
            text.rockMore = c;
            State s = start(text);
            for (int t = 0; t < n; t++) {
                hour(text, s, text.seed, NONE);
            }
            text.rockMore = NONE;
            if (bits(s.lost) == set) {
                found.add(c);
            }
        }
        return i == -1 ? found.size() : i < found.size() ? found.get(i) : NONE;
    }

    // ---- what is held ----

    public boolean hold(int slot) {
        if (slot < 0 || slot > 2) {
            return false;
        }
        slots.put(slot, now.copy());
        return true;
    }

    public boolean restore(int slot) {
        if (!slots.containsKey(slot)) {
            return false;
        }
        now = slots.get(slot).copy();
        past.clear();
        return true;
    }

    public int count(int what) {
        int water = 0;
        for (String row : text.rows) {
            water += row.replaceAll("[^o]", "").length();
        }
        int all = (1 << boats()) - 1;
        int[] answers = {text.width(), text.rows.size(), boats(), now.hour, bits(now.home), bits(now.lost),
            all & ~bits(now.out), wind(text, now.hour), tape.size(), past.size(), told.size(), slots.size(), water,
            all & ~bits(now.home) & ~bits(now.lost)};
        return what < 0 || what >= answers.length ? NONE : answers[what];
    }
}
