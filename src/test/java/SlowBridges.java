import java.util.ArrayList;
import java.util.Arrays;
import java.util.HashMap;
import java.util.List;
import java.util.Map;
import java.util.PriorityQueue;

/**
 * The document once more, in the plainest way and without regard to time or room: every ROW is walked through,
 * every way of wishing is tried. The tests hold WishBridges against it.
 */
final class SlowBridges {
    private static final int NONE = -1;
    private static final List<String> WORDS = Arrays.asList("bank", "path", "bridge", "man", "wishes", "toll",
            "goes", "gain", "fancy", "dawn", "pilgrims", "hire", "seed", "if", "then", "else", "hour", "last",
            "times", "purse", "home", "who", "here", "waited");
    private static final List<String> VARS = WORDS.subList(16, 24);

    // ---- texts ----

    private static final class Token {
        String text;
        int place;
        char sort; // 'n' NAME, 'i' INT, 'w' word, 's' sign, 'x' no TOKEN, 'e' end
    }

    private static final class Fault extends RuntimeException {
        private static final long serialVersionUID = 1;
        final int number;
        final int place;

        Fault(int number, int place) {
            this.number = number;
            this.place = place;
        }
    }

    private static class Node {
        char op;
        int value;
        Node a;
        Node b;
    }

    private static final class Law {
        final List<Node[]> ifs = new ArrayList<>();
        Node rest;
    }

    private static final class Bridge {
        int foot;
        int last;
        Law toll;
    }

    private static final class Man {
        int at;
        int home;
        int purse;
        Law wishes;
    }

    private static final class Text {
        int banks;
        final List<int[]> paths = new ArrayList<>();
        final List<Bridge> bridges = new ArrayList<>();
        final List<Man> men = new ArrayList<>();
        Law goes;
        Law gain;
        Law fancy;
        int dawn = -2;
        int pilgrims;
        int hire = 5;
        int seed;
    }

    private static final class Parser {
        final List<Token> tokens = new ArrayList<>();
        final List<int[]> rooms = new ArrayList<>();
        final List<int[]> others = new ArrayList<>();
        final Map<String, Integer> banks = new HashMap<>();
        final Map<String, Integer> bridges = new HashMap<>();
        final Map<String, Integer> men = new HashMap<>();
        final Text text = new Text();
        int next;
        int paths;
        int open;

        Parser(String s) {
            int at = 0;
            while (at < s.length()) {
                int from = at;
                char c = s.charAt(at);
                if (" \t\n\r".indexOf(c) >= 0) {
                    at++;
                    continue;
                }
                Token t = new Token();
                t.place = from;
                if (c >= 'a' && c <= 'z') {
                    while (at < s.length() && s.charAt(at) >= 'a' && s.charAt(at) <= 'z') {
                        at++;
                    }
                    t.text = s.substring(from, at);
                    t.sort = t.text.length() > 8 ? 'x' : WORDS.contains(t.text) ? 'w' : 'n';
                } else if (c >= '0' && c <= '9') {
                    while (at < s.length() && s.charAt(at) >= '0' && s.charAt(at) <= '9') {
                        at++;
                    }
                    t.text = s.substring(from, at);
                    t.sort = t.text.length() > 4 ? 'x' : 'i';
                } else {
                    at++;
                    t.text = s.substring(from, at);
                    t.sort = ";=+-*/<()".indexOf(c) >= 0 ? 's' : 'x';
                }
                tokens.add(t);
            }
            Token end = new Token();
            end.text = "";
            end.sort = 'e';
            end.place = s.length();
            tokens.add(end);
        }

        /** {0, NONE} or the FAULT and its place. */
        int[] parse() {
            int syntax = Integer.MAX_VALUE;
            try {
                while (peek().sort != 'e') {
                    tell();
                }
            } catch (Fault f) {
                syntax = f.place;
            }
            if (tokens.size() > 401 && tokens.get(400).sort != 'x') {
                rooms.add(new int[] {2, tokens.get(400).place});
            }
            List<int[]> hard = new ArrayList<>(rooms);
            if (syntax != Integer.MAX_VALUE) {
                hard.add(new int[] {1, syntax});
            }
            return hard.isEmpty() ? first(others) : first(hard);
        }

        private static int[] first(List<int[]> faults) {
            int[] best = {0, Integer.MAX_VALUE};
            for (int[] f : faults) {
                if (f[1] < best[1] || f[1] == best[1] && f[0] < best[0]) {
                    best = f;
                }
            }
            return best[0] == 0 ? new int[] {0, NONE} : best;
        }

        private Token peek() {
            return tokens.get(next);
        }

        private boolean sees(String s) {
            return peek().text.equals(s) && peek().sort != 'x';
        }

        private Token want(String s) {
            if (!sees(s)) {
                throw new Fault(1, peek().place);
            }
            return tokens.get(next++);
        }

        private Token wantSort(char sort) {
            if (peek().sort != sort) {
                throw new Fault(1, peek().place);
            }
            return tokens.get(next++);
        }

        private void newName(Map<String, Integer> map) {
            Token t = wantSort('n');
            if (banks.containsKey(t.text) || bridges.containsKey(t.text) || men.containsKey(t.text)) {
                others.add(new int[] {3, t.place});
            } else {
                map.put(t.text, map.size());
            }
        }

        private int known(Map<String, Integer> map) {
            Token t = wantSort('n');
            if (!map.containsKey(t.text)) {
                others.add(new int[] {4, t.place});
                return 0;
            }
            return map.get(t.text);
        }

        private int number(int low, int high) {
            Token t = wantSort('i');
            int v = Integer.parseInt(t.text);
            if (v < low || v > high) {
                others.add(new int[] {5, t.place});
            }
            return v;
        }

        private void room(int have, int most) {
            if (have >= most) {
                rooms.add(new int[] {2, peek().place});
            }
        }

        private void tell() {
            if (peek().sort != 'w') {
                throw new Fault(1, peek().place);
            }
            Token t = peek();
            switch (t.text) {
                case "bank":
                    room(text.banks, 6);
                    next++;
                    newName(banks);
                    text.banks++;
                    break;
                case "path":
                    room(text.paths.size(), 10);
                    next++;
                    tellPath();
                    break;
                case "bridge":
                    room(text.bridges.size(), 4);
                    next++;
                    tellBridge();
                    break;
                case "man":
                    room(text.men.size(), 7);
                    next++;
                    tellMan();
                    break;
                case "wishes": {
                    next++;
                    int m = known(men);
                    Law l = law();
                    if (m < text.men.size()) {
                        text.men.get(m).wishes = l;
                    }
                    break;
                }
                case "toll": {
                    next++;
                    int b = known(bridges);
                    Law l = law();
                    if (b < text.bridges.size()) {
                        text.bridges.get(b).toll = l;
                    }
                    break;
                }
                case "goes":
                    next++;
                    text.goes = law();
                    break;
                case "gain":
                    next++;
                    text.gain = law();
                    break;
                case "fancy":
                    next++;
                    text.fancy = law();
                    break;
                case "dawn":
                    next++;
                    text.dawn = number(0, 23);
                    break;
                case "pilgrims":
                    next++;
                    text.pilgrims = number(0, 100);
                    break;
                case "hire":
                    next++;
                    text.hire = number(0, 99);
                    break;
                case "seed":
                    next++;
                    text.seed = number(0, 9999);
                    break;
                default:
                    throw new Fault(1, t.place);
            }
            want(";");
        }

        private void tellPath() {
            String a = peek().text;
            int from = known(banks);
            Token second = peek();
            int to = known(banks);
            if (a.equals(second.text) && banks.containsKey(a)) {
                others.add(new int[] {3, second.place});
            }
            text.paths.add(new int[] {from, to, number(1, 9)});
        }

        private void tellBridge() {
            Bridge b = new Bridge();
            newName(bridges);
            b.foot = known(banks);
            b.last = -1;
            if (peek().sort == 'n') {
                b.last = known(banks);
            }
            text.bridges.add(b);
        }

        private void tellMan() {
            Man m = new Man();
            newName(men);
            m.at = known(banks);
            m.home = known(banks);
            m.purse = number(0, 999);
            text.men.add(m);
        }

        private Law law() {
            Law l = new Law();
            open = 0;
            want("=");
            while (sees("if")) {
                if (l.ifs.size() >= 4) {
                    rooms.add(new int[] {2, peek().place});
                }
                want("if");
                Node a = sum();
                want("<");
                Node b = sum();
                want("then");
                Node c = sum();
                want("else");
                l.ifs.add(new Node[] {a, b, c});
            }
            l.rest = sum();
            return l;
        }

        private Node join(char op, Node a, Node b) {
            Node n = new Node();
            n.op = op;
            n.a = a;
            n.b = b;
            return n;
        }

        private Node sum() {
            Node n = product();
            while (sees("+") || sees("-")) {
                char op = tokens.get(next++).text.charAt(0);
                n = join(op, n, product());
            }
            return n;
        }

        private Node product() {
            Node n = unit();
            while (sees("*") || sees("/")) {
                char op = tokens.get(next++).text.charAt(0);
                n = join(op, n, unit());
            }
            return n;
        }

        private Node unit() {
            if (sees("(")) {
                open++;
                if (open > 6) {
                    rooms.add(new int[] {2, peek().place});
                }
                next++;
                Node n = sum();
                want(")");
                open--;
                return n;
            }
            Node n = new Node();
            if (peek().sort == 'i') {
                n.op = 'i';
                n.value = Integer.parseInt(tokens.get(next++).text);
                return n;
            }
            if (peek().sort == 'w' && VARS.contains(peek().text)) {
                n.op = 'v';
                n.value = VARS.indexOf(tokens.get(next++).text);
                return n;
            }
            throw new Fault(1, peek().place);
        }
    }

    private static final class ByZero extends RuntimeException {
        private static final long serialVersionUID = 1;
    }

    private static int value(Node n, int[] vars) {
        switch (n.op) {
            case 'i': return n.value;
            case 'v': return vars[n.value];
            default:
        }
        int a = value(n.a, vars);
        int b = value(n.b, vars);
        switch (n.op) {
            case '+': return a + b;
            case '-': return a - b;
            case '*': return a * b;
            default:
                if (b == 0) {
                    throw new ByZero();
                }
                return (int) ((long) a / b);
        }
    }

    private static int value(Law law, int[] vars) {
        try {
            for (Node[] i : law.ifs) {
                if (value(i[0], vars) < value(i[1], vars)) {
                    return value(i[2], vars);
                }
            }
            return value(law.rest, vars);
        } catch (ByZero e) {
            return 0;
        }
    }

    // ---- what goes on ----

    private static final class World {
        int hour;
        int costs;
        int hired;
        int[] last;
        int[] crossed;
        int[] at;
        int[] on;
        int[] purse;
        int[] times;
        int[] waited;

        World(Text t) {
            last = t.bridges.stream().mapToInt(b -> b.last).toArray();
            crossed = new int[last.length];
            at = t.men.stream().mapToInt(m -> m.at).toArray();
            on = new int[at.length];
            Arrays.fill(on, -1);
            purse = t.men.stream().mapToInt(m -> m.purse).toArray();
            times = new int[at.length];
            waited = new int[at.length];
        }

        World(World w) {
            hour = w.hour;
            costs = w.costs;
            hired = w.hired;
            last = w.last.clone();
            crossed = w.crossed.clone();
            at = w.at.clone();
            on = w.on.clone();
            purse = w.purse.clone();
            times = w.times.clone();
            waited = w.waited.clone();
        }
    }

    private final StringBuilder tape = new StringBuilder();
    private int place = NONE;
    private Text text = new Text();
    private World world = new World(text);
    private final List<World> past = new ArrayList<>();
    private final World[] slots = new World[3];
    private final List<int[]> seen = new ArrayList<>();
    private final Map<Integer, Integer> said = new HashMap<>();

    int feed(int a, int b, int c, int d, int e) {
        if (tape.length() + 20 > 2000) {
            return NONE;
        }
        for (int v : new int[] {a, b, c, d, e}) {
            for (int i = 3; i >= 0; i--) {
                tape.append((char) (v >> 8 * i & 255));
            }
        }
        return tape.length();
    }

    int back(int n) {
        if (n < 0 || n > tape.length()) {
            return NONE;
        }
        tape.setLength(tape.length() - n);
        return tape.length();
    }

    int read() {
        Parser p = new Parser(tape.toString());
        tape.setLength(0);
        int[] fault = p.parse();
        place = fault[1];
        if (fault[0] == 0) {
            text = p.text;
            world = new World(text);
            past.clear();
            seen.clear();
            said.clear();
            Arrays.fill(slots, null);
        }
        return fault[0];
    }

    int place() {
        return place;
    }

    private boolean noBank(int b) {
        return b < 0 || b >= text.banks;
    }

    private boolean noBridge(int b) {
        return b < 0 || b >= text.bridges.size();
    }

    private boolean noMan(int m) {
        return m < 0 || m >= text.men.size();
    }

    int bank(int bank) {
        return noBank(bank) ? NONE : menAt(bank);
    }

    private int menAt(int bank) {
        int bits = 0;
        for (int m = 0; m < text.men.size(); m++) {
            bits |= world.at[m] == bank ? 1 << m : 0;
        }
        return bits;
    }

    int bridge(int b, int what) {
        if (noBridge(b) || what < 0 || what > 3) {
            return NONE;
        }
        int on = 0;
        for (int m = 0; m < text.men.size(); m++) {
            on |= world.on[m] == b ? 1 << m : 0;
        }
        return new int[] {text.bridges.get(b).foot, world.last[b] < 0 ? -2 : world.last[b], on, world.crossed[b]}[what];
    }

    int man(int m, int what) {
        if (noMan(m) || what < 0 || what > 5) {
            return NONE;
        }
        return new int[] {world.at[m] < 0 ? -2 : world.at[m], text.men.get(m).home, world.purse[m], world.times[m],
            world.waited[m], world.on[m] < 0 ? -2 : world.on[m]}[what];
    }

    private int[] vars(World w, int m, int last) {
        return new int[] {w.hour % 24, last, w.times[m], w.purse[m], text.men.get(m).home, m, w.at[m], w.waited[m]};
    }

    private int wishIn(World w, int m, int b) {
        Man man = text.men.get(m);
        if (man.wishes == null) {
            return man.home;
        }
        int v = value(man.wishes, vars(w, m, w.last[b]));
        return v < 0 ? -2 : v % text.banks;
    }

    private int tollIn(World w, int m, int b) {
        Law l = text.bridges.get(b).toll;
        return l == null ? 0 : Math.max(0, Math.min(99, value(l, vars(w, m, w.last[b]))));
    }

    int wish(int m, int b) {
        if (noMan(m) || noBridge(b)) {
            return NONE;
        }
        return world.on[m] >= 0 ? -2 : wishIn(world, m, b);
    }

    int toll(int m, int b) {
        if (noMan(m) || noBridge(b)) {
            return NONE;
        }
        return world.on[m] >= 0 ? -2 : tollIn(world, m, b);
    }

    private boolean could(World w, int m, int b) {
        return w.on[m] < 0 && w.at[m] == text.bridges.get(b).foot && tollIn(w, m, b) <= w.purse[m];
    }

    /** -3: ON it. */
    private int cross(World w, int m, int b, boolean pays, int wish) {
        int toll = pays ? tollIn(w, m, b) : 0;
        int to = w.last[b];
        w.purse[m] -= toll;
        if (to < 0) {
            w.on[m] = b;
            w.at[m] = -1;
        } else {
            w.at[m] = to;
            for (int o = 0; o < w.on.length; o++) {
                if (w.on[o] == b) {
                    w.on[o] = -1;
                    w.at[o] = to;
                }
            }
        }
        if (wish >= 0) {
            w.last[b] = wish;
        }
        w.times[m]++;
        w.waited[m] = 0;
        w.crossed[b]++;
        return to < 0 ? -3 : to;
    }

    private static int lot(int n, int seed, int which) {
        int h = seed;
        for (int it : new int[] {47, which}) {
            h = (h ^ it) * 1103515245 + 12345;
            h = h ^ (h >>> 15);
        }
        return (h >>> 1) % n;
    }

    private void hour(World w, int seed) {
        w.hour++;
        for (int b = 0; b < w.last.length; b++) {
            if (text.dawn >= 0 && w.hour % 24 == text.dawn) {
                w.last[b] = lot(text.banks, seed, 100 * w.hour + b);
            }
            if (lot(100, seed, 100 * w.hour + 10 + b) < text.pilgrims) {
                w.last[b] = lot(text.banks, seed, 100 * w.hour + 20 + b);
            }
        }
    }

    private void ruleHour(World w, int seed, int idle) {
        boolean[] used = new boolean[w.last.length];
        for (int m = 0; m < w.at.length; m++) {
            if (m == idle || w.on[m] >= 0 || w.at[m] == text.men.get(m).home) {
                continue;
            }
            int chosen = -1;
            for (int b = 0; b < used.length && chosen < 0; b++) {
                if (could(w, m, b) && !used[b] && w.last[b] == text.men.get(m).home) {
                    chosen = b;
                }
            }
            for (int b = 0; b < used.length && chosen < 0; b++) {
                if (could(w, m, b) && !used[b] && text.goes != null && value(text.goes, vars(w, m, w.last[b])) > 0) {
                    chosen = b;
                }
            }
            if (chosen < 0) {
                w.waited[m]++;
            } else {
                used[chosen] = true;
                cross(w, m, chosen, true, wishIn(w, m, chosen));
            }
        }
        hour(w, seed);
    }

    private void keep(World before) {
        past.add(before);
        if (past.size() > 40) {
            past.remove(0);
        }
    }

    int cross(int m, int b) {
        if (noMan(m) || noBridge(b)) {
            return NONE;
        }
        if (!could(world, m, b)) {
            return -2;
        }
        keep(new World(world));
        int to = cross(world, m, b, true, wishIn(world, m, b));
        hour(world, text.seed);
        return to;
    }

    int pair(int m, int o, int b) {
        if (noMan(m) || noMan(o) || m == o || noBridge(b)) {
            return NONE;
        }
        World next = new World(world);
        if (!could(next, m, b)) {
            return -2;
        }
        cross(next, m, b, true, wishIn(next, m, b));
        if (!could(next, o, b)) {
            return -2;
        }
        int to = cross(next, o, b, true, wishIn(next, o, b));
        hour(next, text.seed);
        keep(world);
        world = next;
        return to;
    }

    boolean hire(int b, int bank) {
        if (noBridge(b) || noBank(bank)) {
            return false;
        }
        keep(new World(world));
        world.last[b] = bank;
        world.costs += text.hire;
        world.hired++;
        hour(world, text.seed);
        return true;
    }

    int walk(int m, int bank) {
        if (noMan(m) || noBank(bank)) {
            return NONE;
        }
        int best = 100;
        for (int[] p : text.paths) {
            if (p[0] == world.at[m] && p[1] == bank || p[1] == world.at[m] && p[0] == bank) {
                best = Math.min(best, p[2]);
            }
        }
        if (best == 100) {
            return -2;
        }
        keep(new World(world));
        world.at[m] = bank;
        world.waited[m] = 0;
        for (int i = 0; i < best; i++) {
            hour(world, text.seed);
        }
        return best;
    }

    int hours(int n) {
        if (n < 0 || n > 200) {
            return NONE;
        }
        World before = new World(world);
        for (int i = 0; i < n; i++) {
            hour(world, text.seed);
        }
        if (n > 0) {
            keep(before);
        }
        return world.hour;
    }

    int rule(int n) {
        if (n < 0 || n > 200) {
            return NONE;
        }
        World before = new World(world);
        for (int i = 0; i < n; i++) {
            ruleHour(world, text.seed, -1);
        }
        if (n > 0) {
            keep(before);
        }
        return world.hour;
    }

    boolean undo() {
        if (past.isEmpty()) {
            return false;
        }
        world = past.remove(past.size() - 1);
        return true;
    }

    private int homesIn(World w) {
        int bits = 0;
        for (int m = 0; m < w.at.length; m++) {
            bits |= w.at[m] == text.men.get(m).home ? 1 << m : 0;
        }
        return bits;
    }

    int homes() {
        return homesIn(world);
    }

    private World behind(int n, int seed, int idle) {
        World w = new World(world);
        for (int i = 0; i < n; i++) {
            ruleHour(w, seed, idle);
        }
        return w;
    }

    int where(int m, int n) {
        if (noMan(m) || n < 0 || n > 300) {
            return NONE;
        }
        World w = behind(n, text.seed, -1);
        return w.on[m] >= 0 ? -2 : w.at[m];
    }

    int last(int b, int n) {
        if (noBridge(b) || n < 0 || n > 300) {
            return NONE;
        }
        World w = behind(n, text.seed, -1);
        return w.last[b] < 0 ? -2 : w.last[b];
    }

    int coins(int n) {
        if (n < 0 || n > 300) {
            return NONE;
        }
        return Arrays.stream(behind(n, text.seed, -1).purse).sum();
    }

    int homeBy(int m) {
        if (noMan(m)) {
            return NONE;
        }
        World w = new World(world);
        for (int n = 0; n <= 300; n++) {
            if ((homesIn(w) >> m & 1) == 1) {
                return n;
            }
            ruleHour(w, text.seed, -1);
        }
        return -2;
    }

    int allHome() {
        World w = new World(world);
        for (int n = 0; n <= 300; n++) {
            if (homesIn(w) == (1 << text.men.size()) - 1) {
                return n;
            }
            ruleHour(w, text.seed, -1);
        }
        return -2;
    }

    int odds(int m, int n, int s) {
        if (noMan(m) || n < 0 || n > 300 || s < 1 || s > 20) {
            return NONE;
        }
        int found = 0;
        for (int k = 0; k < s; k++) {
            found += homesIn(behind(n, text.seed + k, -1)) >> m & 1;
        }
        return found;
    }

    int waiting(int m, int b) {
        if (noMan(m) || noBridge(b)) {
            return NONE;
        }
        if (world.at[m] != text.bridges.get(b).foot) {
            return -2;
        }
        for (int n = 0; n <= 100; n++) {
            World w = behind(n, text.seed, m);
            if (could(w, m, b) && w.last[b] == text.men.get(m).home) {
                return n;
            }
        }
        return -2;
    }

    int follow(int m, int b) {
        if (noMan(m) || noBridge(b)) {
            return NONE;
        }
        if (world.at[m] == text.bridges.get(b).foot) {
            for (int o = 0; o < text.men.size(); o++) {
                if (o != m && could(world, o, b) && wishIn(world, o, b) == text.men.get(m).home) {
                    return o;
                }
            }
        }
        return -2;
    }

    /** Of each BANK {hours, crossings}, or null: every LAST of every BRIDGE is a place of its own. */
    private int[][] ways(int from) {
        Map<String, Integer> best = new HashMap<>();
        PriorityQueue<int[]> queue = new PriorityQueue<>((x, y) -> x[0] != y[0] ? x[0] - y[0] : x[1] - y[1]);
        int n = text.bridges.size();
        int[] start = new int[3 + n];
        start[2] = from;
        System.arraycopy(world.last, 0, start, 3, n);
        queue.add(start);
        int[][] found = new int[text.banks][];
        while (!queue.isEmpty()) {
            int[] s = queue.poll();
            String key = Arrays.toString(Arrays.copyOfRange(s, 2, s.length));
            if (best.put(key, 1) != null) {
                continue;
            }
            if (found[s[2]] == null) {
                found[s[2]] = new int[] {s[0], s[1]};
            }
            for (int[] p : text.paths) {
                for (int way = 0; way < 2; way++) {
                    if (p[way] == s[2]) {
                        int[] t = s.clone();
                        t[0] += p[2];
                        t[2] = p[1 - way];
                        queue.add(t);
                    }
                }
            }
            for (int b = 0; b < n; b++) {
                for (int w = 0; w < text.banks && text.bridges.get(b).foot == s[2] && s[3 + b] >= 0; w++) {
                    int[] t = s.clone();
                    t[0]++;
                    t[1]++;
                    t[2] = s[3 + b];
                    t[3 + b] = w;
                    queue.add(t);
                }
            }
        }
        return found;
    }

    int way(int m, int bank, int what) {
        if (noMan(m) || noBank(bank) || what < 0 || what > 1) {
            return NONE;
        }
        if (world.on[m] >= 0) {
            return -2;
        }
        int[] found = ways(world.at[m])[bank];
        return found == null ? -2 : found[what];
    }

    int reach(int m, int n) {
        if (noMan(m) || n < 0 || n > 99) {
            return NONE;
        }
        if (world.on[m] >= 0) {
            return -2;
        }
        int bits = 0;
        int[][] found = ways(world.at[m]);
        for (int b = 0; b < text.banks; b++) {
            bits |= found[b] != null && found[b][0] <= n ? 1 << b : 0;
        }
        return bits;
    }

    // ---- rows ----

    private boolean noRow(int b, int set) {
        return noBridge(b) || set <= 0 || set >= 1 << text.men.size();
    }

    private boolean notAtFoot(int b, int set) {
        return (menAt(text.bridges.get(b).foot) & set) != set;
    }

    private static List<Integer> members(int set) {
        List<Integer> list = new ArrayList<>();
        for (int m = 0; m < 7; m++) {
            if ((set >> m & 1) == 1) {
                list.add(m);
            }
        }
        return list;
    }

    private static void orderings(List<Integer> head, List<Integer> rest, List<List<Integer>> out) {
        if (rest.isEmpty()) {
            out.add(new ArrayList<>(head));
        }
        for (int i = 0; i < rest.size(); i++) {
            List<Integer> left = new ArrayList<>(rest);
            head.add(left.remove(i));
            orderings(head, left, out);
            head.remove(head.size() - 1);
        }
    }

    private static List<List<Integer>> orderings(int set) {
        List<List<Integer>> out = new ArrayList<>();
        orderings(new ArrayList<>(), members(set), out);
        return out;
    }

    /** Who came HOME (bits) in a ROW, with wishers hired ahead of some places. */
    private int homeByRow(int b, List<Integer> row, int hires) {
        World w = new World(world);
        int home = 0;
        for (int i = 0; i < row.size(); i++) {
            if ((hires >> i & 1) == 1) {
                w.last[b] = text.men.get(row.get(i)).home;
                w.hour++;
            }
            home = crossInRow(w, b, row, i, wishIn(w, row.get(i), b), home);
        }
        return home;
    }

    private int crossInRow(World w, int b, List<Integer> row, int i, int wish, int home) {
        int bits = home;
        cross(w, row.get(i), b, false, wish);
        w.hour++;
        // Who has crossed and is at a BANK is where he came; he does not move again.
        for (int j = 0; j <= i; j++) {
            int m = row.get(j);
            if (w.on[m] < 0 && w.at[m] == text.men.get(m).home) {
                bits |= 1 << m;
            }
        }
        return bits;
    }

    int orders(int b, int set) {
        if (noRow(b, set)) {
            return NONE;
        }
        return notAtFoot(b, set) ? -2 : goodOrders(b, set).size();
    }

    private List<List<Integer>> goodOrders(int b, int set) {
        List<List<Integer>> good = new ArrayList<>();
        for (List<Integer> row : orderings(set)) {
            if (homeByRow(b, row, 0) == set) {
                good.add(row);
            }
        }
        return good;
    }

    int orderAt(int b, int set, int i) {
        if (noRow(b, set) || i < 0) {
            return NONE;
        }
        if (notAtFoot(b, set)) {
            return -2;
        }
        List<List<Integer>> good = goodOrders(b, set);
        if (good.isEmpty()) {
            return -2;
        }
        return i < good.get(0).size() ? good.get(0).get(i) : NONE;
    }

    /** The numbers of wisherAt(). */
    private List<Integer> wisherRow(int b, int set) {
        List<List<Integer>> all = orderings(set);
        int size = Integer.bitCount(set);
        for (int hired = 0; hired <= size; hired++) {
            for (List<Integer> row : all) {
                // The first place is the highest bit here, so that it goes without as long as it can.
                for (int c = 0; c < 1 << size; c++) {
                    int hires = Integer.reverse(c) >>> 32 - size;
                    if (Integer.bitCount(c) == hired && homeByRow(b, row, hires) == set) {
                        List<Integer> out = new ArrayList<>();
                        for (int i = 0; i < size; i++) {
                            out.add(row.get(i) + ((hires >> i & 1) == 1 ? 100 : 0));
                        }
                        return out;
                    }
                }
            }
        }
        throw new IllegalStateException("no wishers help");
    }

    int wishers(int b, int set) {
        if (noRow(b, set)) {
            return NONE;
        }
        if (notAtFoot(b, set)) {
            return -2;
        }
        return (int) wisherRow(b, set).stream().filter(v -> v >= 100).count();
    }

    int wisherAt(int b, int set, int i) {
        if (noRow(b, set) || i < 0) {
            return NONE;
        }
        if (notAtFoot(b, set)) {
            return -2;
        }
        List<Integer> row = wisherRow(b, set);
        return i < row.size() ? row.get(i) : NONE;
    }

    int rings(int b, int set, int what) {
        if (noRow(b, set) || what < 0 || what > 2) {
            return NONE;
        }
        if (notAtFoot(b, set)) {
            return -2;
        }
        int n = text.banks;
        int[][] arcs = new int[n][n];
        boolean[][] joined = new boolean[n][n];
        for (int m : members(set)) {
            int home = text.men.get(m).home;
            int to = wishIn(world, m, b) < 0 ? home : wishIn(world, m, b);
            arcs[home][to]++;
            joined[home][to] = true;
            joined[to][home] = true;
            joined[home][home] = true;
            joined[to][to] = true;
        }
        for (int k = 0; k < n; k++) {
            for (int i = 0; i < n; i++) {
                for (int j = 0; j < n; j++) {
                    joined[i][j] |= joined[i][k] && joined[k][j];
                }
            }
        }
        int[] answers = new int[3];
        boolean less = false;
        for (int i = 0; i < n; i++) {
            boolean firstOfPart = joined[i][i];
            for (int j = 0; j < i; j++) {
                firstOfPart &= !joined[i][j];
            }
            if (!firstOfPart) {
                continue;
            }
            boolean even = true;
            boolean lastInside = false;
            int more = 0;
            for (int j = 0; j < n; j++) {
                if (joined[i][j]) {
                    int out = 0;
                    int in = 0;
                    for (int k = 0; k < n; k++) {
                        out += arcs[j][k];
                        in += arcs[k][j];
                    }
                    even &= out == in;
                    more += out > in ? out - in : 0;
                    lastInside |= world.last[b] == j;
                    less |= world.last[b] == j && out > in;
                }
            }
            less |= even && lastInside;
            answers[0]++;
            answers[1] += even ? 1 : 0;
            answers[2] += more > 1 ? more : 1;
        }
        answers[2] -= less ? 1 : 0;
        return answers[what];
    }

    private int[] gains(int b, int set, int late) {
        List<Integer> row = members(set & ~late);
        row.addAll(members(late));
        int home = homeByRow(b, row, 0);
        int[] gains = new int[7];
        for (int i = 0; i < row.size(); i++) {
            int m = row.get(i);
            int came = home >> m & 1;
            World crossing = new World(world);
            crossing.hour += i;
            int[] vars = vars(crossing, m, 0);
            vars[4] = came;
            vars[7] = i;
            int v = text.gain == null ? 20 * came - i : value(text.gain, vars);
            gains[m] = Math.max(-99, Math.min(99, v));
        }
        return gains;
    }

    int gain(int b, int set, int late, int m) {
        if (noRow(b, set) || notAtFoot(b, set) || (late | set) != set || noMan(m) || (set >> m & 1) == 0) {
            return -1000;
        }
        return gains(b, set, late)[m];
    }

    int worth(int b, int set, int late) {
        if (noRow(b, set) || notAtFoot(b, set) || (late | set) != set) {
            return -1000;
        }
        return Arrays.stream(gains(b, set, late)).sum();
    }

    private List<Integer> restsOf(int b, int set) {
        List<Integer> list = new ArrayList<>();
        for (int late = 0; late <= set; late++) {
            boolean rests = (late | set) == set;
            for (int m : members(set)) {
                rests = rests && gains(b, set, late ^ 1 << m)[m] <= gains(b, set, late)[m];
            }
            if (rests) {
                list.add(late);
            }
        }
        return list;
    }

    int rests(int b, int set, int i) {
        if (noRow(b, set) || i < NONE) {
            return NONE;
        }
        if (notAtFoot(b, set)) {
            return -2;
        }
        List<Integer> list = restsOf(b, set);
        return i == NONE ? list.size() : i < list.size() ? list.get(i) : NONE;
    }

    int best(int b, int set, boolean cost) {
        if (noRow(b, set) || notAtFoot(b, set)) {
            return -1000;
        }
        int most = Integer.MIN_VALUE;
        for (int late = 0; late <= set; late++) {
            if ((late | set) == set) {
                most = Math.max(most, worth(b, set, late));
            }
        }
        if (!cost) {
            return most;
        }
        List<Integer> list = restsOf(b, set);
        int least = Integer.MAX_VALUE;
        for (int late : list) {
            least = Math.min(least, worth(b, set, late));
        }
        return list.isEmpty() ? -1000 : most - least;
    }

    int prices(int b, int set, int m, int i) {
        if (noRow(b, set) || m < 0 || m > 3 || i < NONE || i >= text.banks) {
            return NONE;
        }
        if (notAtFoot(b, set)) {
            return -2;
        }
        int[] best = null;
        int[] p = new int[text.banks];
        int all = (int) Math.round(Math.pow(m + 1, text.banks));
        for (int n = 0; n < all; n++) {
            int rest = n;
            for (int k = text.banks - 1; k >= 0; k--) {
                p[k] = rest % (m + 1);
                rest /= m + 1;
            }
            if ((best == null || Arrays.stream(p).sum() < Arrays.stream(best).sum()) && comeHomeBy(b, set, p)) {
                best = p.clone();
            }
        }
        if (best == null) {
            return -2;
        }
        return i == NONE ? Arrays.stream(best).sum() : best[i];
    }

    private boolean comeHomeBy(int b, int set, int[] p) {
        World w = new World(world);
        List<Integer> row = members(set);
        int home = 0;
        for (int i = 0; i < row.size(); i++) {
            int m = row.get(i);
            int leaves = -1;
            int most = Integer.MIN_VALUE;
            for (int k = 0; k < text.banks; k++) {
                int v = text.fancy == null ? 0 : value(text.fancy, vars(w, m, k));
                v = Math.max(-99, Math.min(99, v)) - p[k];
                if (v > most) {
                    most = v;
                    leaves = k;
                }
            }
            home = crossInRow(w, b, row, i, leaves, home);
        }
        return home == set;
    }

    // ---- seen ----

    int see(int m, int bank) {
        if (noMan(m) || noBank(bank) || seen.size() == 12) {
            return NONE;
        }
        seen.add(new int[] {m, bank});
        return seen.size() - 1;
    }

    boolean say(int m, int bank) {
        if (noMan(m) || noBank(bank)) {
            return false;
        }
        said.put(m, bank);
        return true;
    }

    int forget() {
        int n = seen.size();
        seen.clear();
        said.clear();
        return n;
    }

    /** Every way: {LAST, what each wishes ...}. */
    private List<int[]> fitting(int k) {
        List<int[]> ways = new ArrayList<>();
        int size = text.men.size() + 1;
        int[] way = new int[size];
        long all = 1;
        for (int i = 0; i < size; i++) {
            all *= text.banks;
        }
        for (long n = 0; n < all; n++) {
            long rest = n;
            for (int i = 0; i < size; i++) {
                way[i] = (int) (rest % text.banks);
                rest /= text.banks;
            }
            int last = way[0];
            boolean fits = true;
            for (int j = 0; j < k && fits; j++) {
                fits = seen.get(j)[1] == last;
                last = way[1 + seen.get(j)[0]];
            }
            if (fits) {
                ways.add(way.clone());
            }
        }
        return ways;
    }

    int fits(int k) {
        return k < 0 || k > seen.size() ? NONE : fitting(k).size();
    }

    int sure(int k, int m) {
        if (k < 0 || k > seen.size() || noMan(m)) {
            return NONE;
        }
        int found = -2;
        for (int[] way : fitting(k)) {
            if (found != -2 && found != way[1 + m]) {
                return -2;
            }
            found = way[1 + m];
        }
        return found;
    }

    int trust(int k) {
        if (k < 0 || k > seen.size()) {
            return NONE;
        }
        int bits = 0;
        for (int[] way : fitting(k)) {
            for (int m : said.keySet()) {
                bits |= said.get(m) == way[1 + m] ? 1 << m : 0;
            }
        }
        return bits;
    }

    boolean hold(int slot) {
        if (slot < 0 || slot > 2) {
            return false;
        }
        slots[slot] = new World(world);
        return true;
    }

    boolean restore(int slot) {
        if (slot < 0 || slot > 2 || slots[slot] == null) {
            return false;
        }
        world = new World(slots[slot]);
        past.clear();
        return true;
    }

    int count(int what) {
        int held = 0;
        for (World w : slots) {
            held += w == null ? 0 : 1;
        }
        int sayers = 0;
        for (int m : said.keySet()) {
            sayers |= 1 << m;
        }
        int[] answers = {text.banks, text.paths.size(), text.bridges.size(), text.men.size(), world.hour, world.costs,
            world.hired, tape.length(), past.size(), seen.size(), held, sayers, text.dawn};
        return what >= 0 && what < answers.length ? answers[what] : NONE;
    }
}
