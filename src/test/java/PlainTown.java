import java.util.ArrayDeque;
import java.util.ArrayList;
import java.util.Arrays;
import java.util.Deque;
import java.util.HashMap;
import java.util.List;
import java.util.Map;

/**
 * A second telling of the document, slow and plain, which ComparisonTest holds against the class:
 * trees instead of a stack, every row of a bench tried, every act copied whole.
 */
final class PlainTown {
    interface Sum {
        long of(Map<String, Integer> facts);
    }

    interface Test {
        boolean of(Map<String, Integer> facts);
    }

    static final class Fault extends RuntimeException {
        private static final long serialVersionUID = 1L;
        final int kind;
        final int place;

        Fault(int kind, int place) {
            super(null, null, false, false);
            this.kind = kind;
            this.place = place;
        }
    }

    record Token(char sort, String text, int at) {
    }

    record Child(String name, int clay, int grit) {
    }

    record Kiln(String name, int room) {
    }

    record Firing(int week, int kiln, int heat, int cracked) {
    }

    static final List<String> OWN = List.of("child", "clay", "grit", "kiln", "room", "temper", "cracks", "sticks",
        "burns", "fuel", "load", "wind", "heat", "week", "place", "rings", "near", "grits", "full", "if", "or",
        "and", "not", "all", "min", "max");

    /** What a text tells. */
    static final class Plan {
        final List<Child> children = new ArrayList<>();
        final List<Kiln> kilns = new ArrayList<>();
        Sum temper;
        Test cracks;
        Test sticks;
        Sum burns;
        int fuel;
        int load;
        int wind;
        int statements;
    }

    static final class Soul {
        int kiln = -1;
        int place = -1;
        int temper = -1;
        boolean cracked;
        boolean[] stuck = new boolean[8];

        Soul copy() {
            Soul s = new Soul();
            s.kiln = kiln;
            s.place = place;
            s.temper = temper;
            s.cracked = cracked;
            s.stuck = stuck.clone();
            return s;
        }
    }

    static final class State {
        int week;
        int fuel;
        List<Soul> souls = new ArrayList<>();
        List<Integer> lit = new ArrayList<>();
        List<Firing> kept = new ArrayList<>();

        State copy() {
            State s = new State();
            s.week = week;
            s.fuel = fuel;
            for (Soul soul : souls) {
                s.souls.add(soul.copy());
            }
            s.lit.addAll(lit);
            s.kept.addAll(kept);
            return s;
        }
    }

    // ---- reading

    static final class Grammar {
        final List<Token> tokens = new ArrayList<>();
        final Plan plan = new Plan();
        final List<String> names = new ArrayList<>();
        int p = 0;
        int open = 0;
        String formula = "";

        Grammar(String text) {
            int k = 0;
            boolean stop = false;
            while (k < text.length() && !stop) {
                char c = text.charAt(k);
                if (c == ' ' || c == '\n') {
                    k++;
                    continue;
                }
                boolean letter = c >= 'a' && c <= 'z';
                boolean digit = c >= '0' && c <= '9';
                if (!letter && !digit) {
                    tokens.add(new Token('s', String.valueOf(c), k));
                    k++;
                    continue;
                }
                if (k > 0 && (letter && Character.isDigit(text.charAt(k - 1))
                    || digit && text.charAt(k - 1) >= 'a' && text.charAt(k - 1) <= 'z')) {
                    tokens.add(new Token('x', "" + k, k));
                    stop = true;
                    continue;
                }
                int e = k;
                while (e < text.length() && (letter ? text.charAt(e) >= 'a' && text.charAt(e) <= 'z'
                    : text.charAt(e) >= '0' && text.charAt(e) <= '9')) {
                    e++;
                }
                int most = letter ? 6 : 4;
                if (e - k > most) {
                    tokens.add(new Token('x', "" + k, k + most));
                    stop = true;
                } else {
                    String word = text.substring(k, e);
                    tokens.add(new Token(digit ? 'n' : OWN.contains(word) ? 'o' : 'w', word, k));
                }
                k = e;
            }
            tokens.add(new Token('e', "", text.length()));
        }

        Token peek() {
            return tokens.get(p);
        }

        boolean is(String text) {
            return "so".indexOf(peek().sort) >= 0 && peek().text.equals(text);
        }

        Fault wrong() {
            return new Fault(1, peek().at);
        }

        void eat(String text) {
            if (!is(text)) {
                throw wrong();
            }
            p++;
        }

        Plan town() {
            while (peek().sort != 'e') {
                if (plan.statements == 80) {
                    throw new Fault(6, peek().sort == 'x' ? Integer.parseInt(peek().text) : peek().at);
                }
                statement();
                eat(";");
                plan.statements++;
            }
            return plan;
        }

        void statement() {
            Token t = peek();
            List<String> kinds = List.of("child", "kiln", "temper", "cracks", "sticks", "burns", "fuel", "load", "wind");
            if (t.sort != 'o' || !kinds.contains(t.text)) {
                throw wrong();
            }
            boolean again = t.text.equals("child") && plan.children.size() == 8
                || t.text.equals("kiln") && plan.kilns.size() == 3
                || t.text.equals("temper") && plan.temper != null
                || t.text.equals("cracks") && plan.cracks != null
                || t.text.equals("sticks") && plan.sticks != null
                || t.text.equals("burns") && plan.burns != null;
            if (again) {
                throw new Fault(6, t.at);
            }
            p++;
            formula = t.text;
            switch (t.text) {
                case "child" -> {
                    String name = name();
                    eat("clay");
                    int clay = number(0, 99);
                    eat("grit");
                    plan.children.add(new Child(name, clay, number(0, 9)));
                }
                case "kiln" -> {
                    String name = name();
                    eat("room");
                    plan.kilns.add(new Kiln(name, number(1, 6)));
                }
                case "temper" -> plan.temper = sum();
                case "cracks" -> plan.cracks = test();
                case "sticks" -> plan.sticks = test();
                case "burns" -> plan.burns = sum();
                case "fuel" -> plan.fuel = number(0, 999);
                case "load" -> plan.load = number(0, 999);
                default -> plan.wind = number(0, 100);
            }
        }

        String name() {
            Token t = peek();
            if (t.sort != 'w') {
                throw wrong();
            }
            if (names.contains(t.text)) {
                throw new Fault(2, t.at);
            }
            names.add(t.text);
            p++;
            return t.text;
        }

        int number(int least, int most) {
            Token t = peek();
            if (t.sort != 'n') {
                throw wrong();
            }
            int n = Integer.parseInt(t.text);
            if (n < least || n > most) {
                throw new Fault(4, t.at);
            }
            p++;
            return n;
        }

        void begin(String what) {
            if (!is(what)) {
                throw wrong();
            }
            if (open == 7) {
                throw new Fault(5, peek().at);
            }
            open++;
            p++;
        }

        void finish(String what) {
            eat(what);
            open--;
        }

        static long limit(long v) {
            return v > 1_000_000 ? 1_000_000 : v < -1_000_000 ? -1_000_000 : v;
        }

        static long floor(long a, long b) {
            long q = 0;
            if (b != 0) {
                q = a / b;
                if (q * b != a && (a < 0) != (b < 0)) {
                    q--;
                }
            }
            return q;
        }

        Sum sum() {
            Sum left = product();
            while (is("+") || is("-")) {
                boolean plus = is("+");
                p++;
                Sum a = left;
                Sum b = product();
                left = f -> limit(plus ? a.of(f) + b.of(f) : a.of(f) - b.of(f));
            }
            return left;
        }

        Sum product() {
            Sum left = part();
            while (is("*") || is("/") || is("%")) {
                String sign = peek().text;
                p++;
                Sum a = left;
                Sum b = part();
                left = switch (sign) {
                    case "*" -> f -> limit(a.of(f) * b.of(f));
                    case "/" -> f -> limit(floor(a.of(f), b.of(f)));
                    default -> f -> b.of(f) == 0 ? 0 : limit(a.of(f) - b.of(f) * floor(a.of(f), b.of(f)));
                };
            }
            return left;
        }

        boolean allowed(String word) {
            String more = switch (formula) {
                case "temper" -> " clay grit place ";
                case "cracks" -> " clay grit place rings ";
                case "sticks" -> " near grits ";
                default -> " room full ";
            };
            return (" heat week" + more).contains(" " + word + " ");
        }

        Sum part() {
            Token t = peek();
            if (t.sort == 'n') {
                p++;
                long n = Long.parseLong(t.text);
                return f -> n;
            }
            if (is("(")) {
                begin("(");
                Sum inner = sum();
                finish(")");
                return inner;
            }
            if (is("min") || is("max")) {
                p++;
                begin("(");
                Sum a = sum();
                eat(",");
                Sum b = sum();
                finish(")");
                return t.text.equals("min") ? f -> Math.min(a.of(f), b.of(f)) : f -> Math.max(a.of(f), b.of(f));
            }
            if (is("if")) {
                p++;
                begin("(");
                Test c = test();
                eat(",");
                Sum a = sum();
                eat(",");
                Sum b = sum();
                finish(")");
                return f -> c.of(f) ? a.of(f) : b.of(f);
            }
            if (t.sort == 'o' && allowed(t.text)) {
                p++;
                return f -> f.get(t.text);
            }
            throw wrong();
        }

        Test test() {
            Test left = both();
            while (is("or")) {
                p++;
                Test a = left;
                Test b = both();
                left = f -> a.of(f) || b.of(f);
            }
            return left;
        }

        Test both() {
            Test left = fact();
            while (is("and")) {
                p++;
                Test a = left;
                Test b = fact();
                left = f -> a.of(f) && b.of(f);
            }
            return left;
        }

        Test fact() {
            if (is("not")) {
                begin("not");
                Test inner = fact();
                open--;
                return f -> !inner.of(f);
            }
            if (is("[")) {
                begin("[");
                Test inner = test();
                finish("]");
                return inner;
            }
            if (is("all")) {
                p++;
                return f -> true;
            }
            Sum a = sum();
            String sign = peek().text;
            if (!is("<") && !is(">") && !is("=")) {
                throw wrong();
            }
            p++;
            Sum b = sum();
            return switch (sign) {
                case "<" -> f -> a.of(f) < b.of(f);
                case ">" -> f -> a.of(f) > b.of(f);
                default -> f -> a.of(f) == b.of(f);
            };
        }
    }

    // ---- the state

    private final StringBuilder tape = new StringBuilder();
    private Plan plan = new Plan();
    private State s = new State();
    private final Deque<State> acts = new ArrayDeque<>();
    private final int[] refused = new int[6];
    private List<int[]> seen = new ArrayList<>();
    private List<Integer> picture = new ArrayList<>();
    private long x = 1;
    private int fault = 0;
    private int faultAt = -1;

    private int no(int kind) {
        refused[kind]++;
        return -1;
    }

    private boolean never(int kind) {
        refused[kind]++;
        return false;
    }

    private String takeTape() {
        String text = tape.toString();
        tape.setLength(0);
        return text;
    }

    private State first(Plan of) {
        State state = new State();
        state.fuel = of.fuel;
        of.children.forEach(c -> state.souls.add(new Soul()));
        of.kilns.forEach(k -> state.lit.add(-1));
        return state;
    }

    private void act() {
        acts.push(s.copy());
        if (acts.size() > 20) {
            acts.removeLast();
        }
    }

    private boolean child(int c) {
        return c >= 0 && c < plan.children.size();
    }

    private boolean kiln(int k) {
        return k >= 0 && k < plan.kilns.size();
    }

    private static boolean in(int v, int least, int most) {
        return v >= least && v <= most;
    }

    private int temper(int c, int heat, int place, int week) {
        if (plan.temper == null) {
            return Math.min(99, heat * 4);
        }
        return (int) Math.max(0, Math.min(99, plan.temper.of(facts(c, heat, place, week))));
    }

    private Map<String, Integer> facts(int c, int heat, int place, int week) {
        Map<String, Integer> f = new HashMap<>();
        f.put("heat", heat);
        f.put("week", week);
        f.put("clay", plan.children.get(c).clay);
        f.put("grit", plan.children.get(c).grit);
        f.put("place", place);
        return f;
    }

    private boolean crack(int c, int heat, int place, int week) {
        Map<String, Integer> f = facts(c, heat, place, week);
        f.put("rings", temper(c, heat, place, week));
        return plan.cracks != null && plan.cracks.of(f);
    }

    private boolean stick(int a, int pa, int b, int pb, int heat, int week) {
        Map<String, Integer> f = new HashMap<>();
        f.put("heat", heat);
        f.put("week", week);
        f.put("near", Math.abs(temper(a, heat, pa, week) - temper(b, heat, pb, week)));
        f.put("grits", plan.children.get(a).grit + plan.children.get(b).grit);
        return plan.sticks != null && plan.sticks.of(f);
    }

    private int[] row(State of, int k) {
        int[] row = new int[plan.kilns.get(k).room];
        Arrays.fill(row, -1);
        for (int c = 0; c < of.souls.size(); c++) {
            if (of.souls.get(c).kiln == k) {
                row[of.souls.get(c).place] = c;
            }
        }
        return row;
    }

    private static int full(int[] row) {
        return (int) Arrays.stream(row).filter(c -> c >= 0).count();
    }

    private int burn(State of, int k) {
        int heat = of.lit.get(k);
        if (plan.burns == null) {
            return heat;
        }
        Map<String, Integer> f = new HashMap<>();
        f.put("heat", heat);
        f.put("week", of.week);
        f.put("room", plan.kilns.get(k).room);
        f.put("full", full(row(of, k)));
        return (int) Math.max(0, plan.burns.of(f));
    }

    private boolean good(int[] row, int heat) {
        for (int p = 0; p < row.length; p++) {
            if (row[p] >= 0 && crack(row[p], heat, p, s.week)) {
                return false;
            }
            if (p > 0 && row[p] >= 0 && row[p - 1] >= 0 && stick(row[p - 1], p - 1, row[p], p, heat, s.week)) {
                return false;
            }
        }
        return true;
    }

    private List<Integer> week(State of, int gust) {
        List<Integer> fired = new ArrayList<>();
        of.fuel = Math.min(9999, of.fuel + plan.load);
        for (int k = 0; k < plan.kilns.size(); k++) {
            int[] row = row(of, k);
            if (of.lit.get(k) < 0 || full(row) == 0 || burn(of, k) > of.fuel) {
                continue;
            }
            of.fuel -= burn(of, k);
            int heat = Math.min(20, of.lit.get(k) + gust);
            int cracked = 0;
            for (int p = 0; p < row.length; p++) {
                if (row[p] < 0) {
                    continue;
                }
                Soul soul = of.souls.get(row[p]);
                soul.temper = temper(row[p], heat, p, of.week);
                soul.cracked = crack(row[p], heat, p, of.week);
                cracked += soul.cracked ? 1 : 0;
                soul.kiln = -1;
                soul.place = -1;
                if (p + 1 < row.length && row[p + 1] >= 0 && stick(row[p], p, row[p + 1], p + 1, heat, of.week)) {
                    soul.stuck[row[p + 1]] = true;
                    of.souls.get(row[p + 1]).stuck[row[p]] = true;
                }
            }
            of.lit.set(k, -1);
            of.kept.add(new Firing(of.week, k, heat, cracked));
            if (of.kept.size() > 40) {
                of.kept.remove(0);
            }
            fired.add(k);
        }
        of.week++;
        return fired;
    }

    private State after(int n) {
        if (!in(n, 0, 40) || s.week + n > 999) {
            return null;
        }
        State later = s.copy();
        for (int k = 0; k < n; k++) {
            week(later, 0);
        }
        return later;
    }

    private int draw(int m) {
        x = (1103515245L * x + 12345) % (1L << 31);
        return (int) (x / 64 % m);
    }

    // ---- the calls

    int feed(int a, int b, int c, int d, int e) {
        if (tape.length() > 1580) {
            return no(0);
        }
        for (int v : new int[] {a, b, c, d, e}) {
            tape.append((char) (v >>> 24)).append((char) (v >>> 16 & 255)).append((char) (v >>> 8 & 255))
                .append((char) (v & 255));
        }
        return tape.length();
    }

    boolean end(int n) {
        if (!in(n, 0, tape.length())) {
            return never(0);
        }
        tape.setLength(n);
        return true;
    }

    int town() {
        try {
            plan = new Grammar(takeTape()).town();
        } catch (Fault f) {
            fault = f.kind;
            faultAt = f.place;
            return no(1);
        }
        fault = 0;
        faultAt = -1;
        s = first(plan);
        acts.clear();
        seen = new ArrayList<>();
        return plan.statements;
    }

    int fault(int what) {
        return what == 0 ? fault : what == 1 ? faultAt : -1;
    }

    int has(int what) {
        return switch (what) {
            case 0 -> plan.children.size();
            case 1 -> plan.kilns.size();
            case 2 -> s.week;
            case 3 -> s.fuel;
            case 4 -> (int) s.souls.stream().filter(o -> o.kiln >= 0).count();
            case 5 -> (int) s.souls.stream().filter(o -> o.temper >= 0).count();
            case 6 -> (int) s.souls.stream().filter(o -> o.cracked).count();
            case 7 -> (int) s.lit.stream().filter(h -> h >= 0).count();
            case 8 -> s.kept.size();
            case 9 -> seen.size();
            case 10 -> acts.size();
            case 11 -> (int) x;
            default -> -1;
        };
    }

    int letter(int kind, int which, int k) {
        boolean there = kind == 0 ? child(which) : kind == 1 && kiln(which);
        if (!there || !in(k, 0, 5)) {
            return -1;
        }
        String name = kind == 0 ? plan.children.get(which).name : plan.kilns.get(which).name;
        return k < name.length() ? name.charAt(k) - 'a' + 1 : 0;
    }

    int child(int c, int what) {
        if (!child(c)) {
            return -1;
        }
        Soul o = s.souls.get(c);
        return switch (what) {
            case 0 -> plan.children.get(c).clay;
            case 1 -> plan.children.get(c).grit;
            case 2 -> o.kiln;
            case 3 -> o.place;
            case 4 -> o.temper >= 0 ? 1 : 0;
            case 5 -> o.temper;
            case 6 -> o.cracked ? 1 : 0;
            default -> -1;
        };
    }

    int kiln(int k, int what) {
        if (!kiln(k)) {
            return -1;
        }
        return switch (what) {
            case 0 -> plan.kilns.get(k).room;
            case 1 -> full(row(s, k));
            case 2 -> s.lit.get(k);
            case 3 -> s.lit.get(k) < 0 ? -1 : burn(s, k);
            default -> -1;
        };
    }

    int place(int k, int p) {
        return kiln(k) && in(p, 0, plan.kilns.get(k).room - 1) ? row(s, k)[p] : -1;
    }

    int rings(int c, int heat, int p) {
        return child(c) && in(heat, 0, 20) && in(p, 0, 5) ? temper(c, heat, p, s.week) : -1;
    }

    int cracks(int c, int heat, int p) {
        return child(c) && in(heat, 0, 20) && in(p, 0, 5) ? crack(c, heat, p, s.week) ? 1 : 0 : -1;
    }

    int heats(int c, int p, int least, int most) {
        if (!child(c) || !in(p, 0, 5)) {
            return -1;
        }
        int bits = 0;
        for (int h = 0; h <= 20; h++) {
            if (in(temper(c, h, p, s.week), least, most) && !crack(c, h, p, s.week)) {
                bits += 1 << h;
            }
        }
        return bits;
    }

    int safe(int k) {
        if (!kiln(k) || full(row(s, k)) == 0) {
            return -1;
        }
        int greatest = -1;
        for (int h = 0; h <= 20; h++) {
            if (good(row(s, k), h)) {
                greatest = h;
            }
        }
        return greatest;
    }

    private void rows(int[] row, int p, List<Integer> left, List<int[]> all) {
        if (p == row.length) {
            if (left.isEmpty()) {
                all.add(row.clone());
            }
            return;
        }
        row[p] = -1;
        rows(row, p + 1, left, all);
        for (int c : left) {
            List<Integer> rest = new ArrayList<>(left);
            rest.remove(Integer.valueOf(c));
            row[p] = c;
            rows(row, p + 1, rest, all);
        }
    }

    int best(int k, int what) {
        if (!kiln(k) || what < 0 || full(row(s, k)) == 0) {
            return -1;
        }
        List<Integer> inIt = new ArrayList<>();
        for (int c = 0; c < s.souls.size(); c++) {
            if (s.souls.get(c).kiln == k) {
                inIt.add(c);
            }
        }
        List<int[]> all = new ArrayList<>();
        rows(new int[plan.kilns.get(k).room], 0, inIt, all);
        int bestHeat = -1;
        int bestSum = -1;
        int[] bestRow = {};
        for (int h = 0; h <= 20; h++) {
            for (int[] row : all) {
                int sum = 0;
                for (int p = 0; p < row.length; p++) {
                    sum += row[p] < 0 ? 0 : temper(row[p], h, p, s.week);
                }
                if (sum > bestSum && good(row, h)) {
                    bestHeat = h;
                    bestSum = sum;
                    bestRow = row;
                }
            }
        }
        return what == 0 ? bestHeat : what == 1 ? bestSum : in(what - 2, 0, bestRow.length - 1) ? bestRow[what - 2] : -1;
    }

    int brothers(int c) {
        if (!child(c)) {
            return -1;
        }
        if (s.souls.get(c).temper < 0) {
            return 0;
        }
        Deque<Integer> todo = new ArrayDeque<>(List.of(c));
        int bits = 1 << c;
        while (!todo.isEmpty()) {
            Soul o = s.souls.get(todo.pop());
            for (int k = 0; k < 8; k++) {
                if (o.stuck[k] && (bits >> k & 1) == 0) {
                    bits |= 1 << k;
                    todo.add(k);
                }
            }
        }
        return bits;
    }

    int fired(int k) {
        if (!kiln(k)) {
            return -1;
        }
        State later = s.copy();
        for (int n = 0; n < 40 && later.week < 999; n++) {
            if (week(later, 0).contains(k)) {
                return n;
            }
        }
        return -1;
    }

    int fuel(int n) {
        return after(n) == null ? -1 : after(n).fuel;
    }

    int later(int c, int n) {
        return !child(c) || after(n) == null ? -1 : after(n).souls.get(c).temper;
    }

    int odds(int c) {
        if (!child(c) || s.souls.get(c).kiln < 0 || s.lit.get(s.souls.get(c).kiln) < 0 || s.week > 998) {
            return -1;
        }
        int rows = 0;
        for (int a = 0; a < 100; a++) {
            for (int b = 0; b < 3; b++) {
                State next = s.copy();
                week(next, a < plan.wind ? b + 1 : 0);
                rows += next.souls.get(c).cracked ? 1 : 0;
            }
        }
        return rows;
    }

    int see() {
        String text = takeTape();
        List<int[]> rows = new ArrayList<>();
        if (text.isEmpty() || text.length() > 48 || text.length() % 3 != 0) {
            return no(5);
        }
        for (int k = 0; k < text.length(); k += 3) {
            int[] row = {text.charAt(k), text.charAt(k + 1), text.charAt(k + 2)};
            if (!child(row[0]) || row[1] > 5 || row[2] > 99) {
                return no(5);
            }
            rows.add(row);
        }
        seen = rows;
        return rows.size();
    }

    int seen() {
        int bits = 0;
        for (int h = 0; h <= 20; h++) {
            int heat = h;
            if (seen.stream().allMatch(r -> temper(r[0], heat, r[1], s.week) == r[2])) {
                bits |= 1 << h;
            }
        }
        return bits;
    }

    int tells(int what) {
        int heats = seen();
        if (heats == 0 || plan.children.isEmpty() || !in(what, 0, 2)) {
            return -1;
        }
        int[] told = {-1, -1, 99};
        for (int c = 0; c < plan.children.size(); c++) {
            for (int p = 0; p < 6; p++) {
                Map<Integer, Integer> groups = new HashMap<>();
                for (int h = 0; h <= 20; h++) {
                    if ((heats >> h & 1) == 1) {
                        groups.merge(temper(c, h, p, s.week), 1, Integer::sum);
                    }
                }
                int most = groups.values().stream().mapToInt(v -> v).max().orElse(0);
                if (most < told[2]) {
                    told = new int[] {c, p, most};
                }
            }
        }
        return told[what];
    }

    int weeks(int n) {
        if (!in(n, 1, 40) || s.week + n > 999) {
            return no(2);
        }
        act();
        int firings = 0;
        for (int k = 0; k < n; k++) {
            firings += week(s, 0).size();
        }
        return firings;
    }

    int chance(int n) {
        if (!in(n, 1, 40) || s.week + n > 999) {
            return no(2);
        }
        act();
        int gusts = 0;
        for (int k = 0; k < n; k++) {
            int gust = 0;
            if (draw(100) < plan.wind) {
                gust = 1 + draw(3);
                gusts++;
            }
            week(s, gust);
        }
        return gusts;
    }

    boolean set(int c, int k, int p) {
        if (!child(c) || !kiln(k) || !in(p, 0, plan.kilns.get(k).room - 1) || s.souls.get(c).temper >= 0
            || row(s, k)[p] >= 0) {
            return never(3);
        }
        act();
        s.souls.get(c).kiln = k;
        s.souls.get(c).place = p;
        return true;
    }

    boolean take(int c) {
        if (!child(c) || s.souls.get(c).kiln < 0) {
            return never(3);
        }
        act();
        s.souls.get(c).kiln = -1;
        s.souls.get(c).place = -1;
        return true;
    }

    boolean light(int k, int heat) {
        if (!kiln(k) || !in(heat, -1, 20) || s.lit.get(k) == heat) {
            return never(3);
        }
        act();
        s.lit.set(k, heat);
        return true;
    }

    boolean undo() {
        if (acts.isEmpty()) {
            return never(4);
        }
        s = acts.pop();
        return true;
    }

    boolean seed(int seed) {
        if (seed < 0) {
            return never(5);
        }
        x = seed;
        return true;
    }

    int kept(int k, int what) {
        if (!in(k, 0, s.kept.size() - 1)) {
            return -1;
        }
        Firing f = s.kept.get(k);
        return switch (what) {
            case 0 -> f.week;
            case 1 -> f.kiln;
            case 2 -> f.heat;
            case 3 -> f.cracked;
            default -> -1;
        };
    }

    private static int sealOf(List<Integer> all) {
        int c = 241;
        for (int v : all) {
            c = (5 * c + v) % 251;
        }
        return c;
    }

    int image() {
        picture = new ArrayList<>(List.of(s.week / 256, s.week % 256, s.fuel / 256, s.fuel % 256));
        for (Soul o : s.souls) {
            int bits = 0;
            for (int k = 0; k < 8; k++) {
                bits += o.stuck[k] ? 1 << k : 0;
            }
            picture.addAll(List.of(o.temper < 0 ? 0 : 1, o.kiln & 255, o.place & 255, o.temper & 255,
                o.cracked ? 1 : 0, bits));
        }
        for (int heat : s.lit) {
            picture.add(heat & 255);
        }
        picture.add(sealOf(picture));
        return picture.size();
    }

    int octet(int k) {
        return in(k, 0, picture.size() - 1) ? picture.get(k) : -1;
    }

    boolean on() {
        State told = told(takeTape());
        if (told == null) {
            return never(5);
        }
        s = told;
        acts.clear();
        return true;
    }

    private State told(String text) {
        int n = plan.children.size();
        if (text.length() != 5 + 6 * n + plan.kilns.size()) {
            return null;
        }
        List<Integer> all = new ArrayList<>();
        text.chars().forEach(all::add);
        int seal = all.remove(all.size() - 1);
        State told = first(plan);
        told.week = all.get(0) * 256 + all.get(1);
        told.fuel = all.get(2) * 256 + all.get(3);
        if (seal != sealOf(all) || told.week > 999 || told.fuel > 9999) {
            return null;
        }
        for (int c = 0; c < n; c++) {
            List<Integer> six = all.subList(4 + 6 * c, 10 + 6 * c);
            Soul o = told.souls.get(c);
            boolean out = six.get(1) == 255 && six.get(2) == 255;
            if (six.get(0) == 0) {
                boolean inside = kiln(six.get(1)) && six.get(2) < plan.kilns.get(six.get(1)).room;
                if (!out && !inside || six.get(3) != 255 || six.get(4) != 0 || six.get(5) != 0) {
                    return null;
                }
                o.kiln = out ? -1 : six.get(1);
                o.place = out ? -1 : six.get(2);
            } else if (six.get(0) != 1 || !out || six.get(3) > 99 || six.get(4) > 1) {
                return null;
            } else {
                o.temper = six.get(3);
                o.cracked = six.get(4) == 1;
                for (int k = 0; k < 8; k++) {
                    o.stuck[k] = (six.get(5) >> k & 1) == 1;
                }
            }
        }
        for (int c = 0; c < n; c++) {
            Soul o = told.souls.get(c);
            for (int k = 0; k < 8; k++) {
                if (o.stuck[k] && (k == c || k >= n || told.souls.get(k).temper < 0 || !told.souls.get(k).stuck[c])) {
                    return null;
                }
                if (k < n && k != c && o.kiln >= 0 && told.souls.get(k).kiln == o.kiln
                    && told.souls.get(k).place == o.place) {
                    return null;
                }
            }
        }
        for (int k = 0; k < plan.kilns.size(); k++) {
            int heat = all.get(4 + 6 * n + k);
            if (heat > 20 && heat != 255) {
                return null;
            }
            told.lit.set(k, heat == 255 ? -1 : heat);
        }
        return told;
    }

    int status(int what) {
        return in(what, 0, 5) ? refused[what] : -1;
    }
}
