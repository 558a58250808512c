import java.math.BigInteger;
import java.util.ArrayDeque;
import java.util.ArrayList;
import java.util.Arrays;
import java.util.List;
import java.util.TreeMap;
import java.util.TreeSet;
import java.util.regex.Matcher;
import java.util.regex.Pattern;

/** The document told a second time, slowly and in another way, to hold FoxGeese against. */
final class Oracle {
    static final int BAD = -2, NO = -3, FULL = -4;

    /** All that an image keeps, but for what may be undone. */
    static final class Stand {
        int w = 5, h = 5, foxKind = 0, foxX = 4, foxY = 4, turn = 0, moves = 0;
        TreeSet<Integer> thickets = new TreeSet<>();
        List<int[]> geese = new ArrayList<>();
        List<int[]> notes = new ArrayList<>();
        List<int[]> marks = new ArrayList<>();

        Stand copy() {
            Stand s = new Stand();
            s.w = w; s.h = h; s.foxKind = foxKind; s.foxX = foxX; s.foxY = foxY; s.turn = turn; s.moves = moves;
            s.thickets = new TreeSet<>(thickets);
            for (int[] g : geese) s.geese.add(g.clone());
            for (int[] n : notes) s.notes.add(n.clone());
            for (int[] n : marks) s.marks.add(n.clone());
            return s;
        }

        boolean inside(int x, int y) { return x >= 0 && y >= 0 && x < w && y < h; }
        boolean cell(int c) { return 0 <= c && c < w * h; }
        int foxCell() { return foxY * w + foxX; }
        int gooseAt(int x, int y) {
            for (int i = 0; i < geese.size(); i++) if (geese.get(i)[1] == y * w + x) return i;
            return -1;
        }
        boolean empty(int x, int y) {
            return !(x == foxX && y == foxY) && gooseAt(x, y) < 0 && !thickets.contains(y * w + x);
        }
        boolean home() { return foxY == 0; }
        boolean caught() { return !home() && turn == 1 && steps(4).isEmpty(); }
        int how() { return home() ? 2 : caught() ? 1 : 0; }

        /** The cells to which one could step, each with the goose that would be eaten (or -1). */
        TreeMap<Integer, Integer> steps(int who) {
            TreeMap<Integer, Integer> out = new TreeMap<>();
            if (who != 4 && geese.get(who)[1] < 0) return out;
            int x = who == 4 ? foxX : geese.get(who)[1] % w, y = who == 4 ? foxY : geese.get(who)[1] / w;
            for (int dx = -4; dx <= 4; dx++) for (int dy = -4; dy <= 4; dy++) {
                if (!inside(x + dx, y + dy) || !empty(x + dx, y + dy)) continue;
                int prey = -1;
                if (dx % 2 == 0 && dy % 2 == 0 && !(dx == 0 && dy == 0)) prey = gooseAt(x + dx / 2, y + dy / 2);
                int c = (y + dy) * w + x + dx;
                if (who == 4) {
                    if (foxMay(foxKind, dx, dy, moves, prey >= 0)) out.put(c, prey);
                } else if (gooseMay(geese.get(who)[0], dx, dy, moves)) {
                    out.put(c, -1);
                }
            }
            return out;
        }

        /** All moves that can be done by whose turn it is, by 100 who and the cell. */
        TreeSet<Integer> options() {
            TreeSet<Integer> out = new TreeSet<>();
            if (turn == 1) for (int c : steps(4).keySet()) out.add(400 + c);
            else for (int i = 0; i < geese.size(); i++) for (int c : steps(i).keySet()) out.add(100 * i + c);
            return out;
        }

        Stand after(int option) {
            Stand s = copy();
            int who = option / 100, c = option % 100;
            if (who == 4) {
                int prey = steps(4).get(c);
                if (prey >= 0) s.geese.get(prey)[1] = -1;
                s.foxX = c % w;
                s.foxY = c / w;
            } else {
                s.geese.get(who)[1] = c;
            }
            return s.ended();
        }

        Stand passed() { return copy().ended(); }
        Stand ended() { moves++; turn = 1 - turn; return this; }
    }

    static boolean foxMay(int kind, int dx, int dy, int m, boolean over) {
        int a = Math.max(Math.abs(dx), Math.abs(dy)), b = Math.min(Math.abs(dx), Math.abs(dy));
        switch (kind) {
            case 0: return a == 1 && b == 0;
            case 1: return foxMay(0, dx, dy, m, over) || a == 1 && b == 1;
            case 2: return foxMay(0, dx, dy, m, over) || over && a == 2 && b == 0;
            case 3: return m % 2 == 1 ? foxMay(0, dx, dy, m, over) && dy == 0 : foxMay(0, dx, dy, m, over);
            case 4: return foxMay(2, dx, dy, m, over) || over && a == 2 && b == 2;
            case 5: return foxMay(m % 2 == 1 ? 0 : 1, dx, dy, m, over);
            default: throw new IllegalStateException();
        }
    }

    static boolean gooseMay(int kind, int dx, int dy, int m) {
        switch (kind) {
            case 0: return dx == 0 && dy == 1 || dy == 0 && Math.abs(dx) == 1;
            case 1: return gooseMay(0, dx, dy, m) || dy == 1 && Math.abs(dx) == 1;
            case 2: return gooseMay(0, dx, dy, m) && (dy == 1 || !List.of(2, 3).contains(m % 4));
            case 3: return gooseMay(1, dx, dy, m) || dx == 0 && dy == -1;
            case 4: return !List.of(4, 5).contains(m % 6) && gooseMay(2, dx, dy, m);
            case 5: return gooseMay(0, dx, dy, m) && dy == 1;
            default: throw new IllegalStateException();
        }
    }

    Stand now = new Stand();
    ArrayDeque<Stand> undo = new ArrayDeque<>();
    final Stand[] images = new Stand[2];
    final List<List<Stand>> imageUndo = new ArrayList<>(Arrays.asList(null, null));
    final StringBuilder text = new StringBuilder();
    BigInteger above = BigInteger.ZERO, below = BigInteger.ONE;
    final int[] status = new int[3];

    int refuse(int reason) { status[-2 - reason]++; return reason; }
    static boolean in(int v, int lo, int hi) { return lo <= v && v <= hi; }

    int field(int w, int h) {
        if (!in(w, 3, 5) || !in(h, 3, 5)) return refuse(BAD);
        int before = now.geese.size();
        now = fresh(w, h);
        undo.clear();
        return before;
    }

    static Stand fresh(int w, int h) {
        Stand s = new Stand();
        s.w = w; s.h = h; s.foxX = w - 1; s.foxY = h - 1;
        return s;
    }

    int thicket(int c) {
        if (!now.cell(c)) return refuse(BAD);
        if (!now.empty(c % now.w, c / now.w)) return refuse(NO);
        now.thickets.add(c);
        undo.clear();
        return now.thickets.size();
    }

    int fox(int kind, int c) {
        if (!in(kind, 0, 5) || !now.cell(c)) return refuse(BAD);
        if (c != now.foxCell() && !now.empty(c % now.w, c / now.w)) return refuse(NO);
        int before = now.foxKind;
        now.foxKind = kind; now.foxX = c % now.w; now.foxY = c / now.w;
        undo.clear();
        return before;
    }

    int goose(int kind, int c) {
        if (!in(kind, 0, 5) || !now.cell(c)) return refuse(BAD);
        if (!now.empty(c % now.w, c / now.w)) return refuse(NO);
        if (now.geese.size() == 4) return refuse(FULL);
        now.geese.add(new int[] {kind, c});
        undo.clear();
        return now.geese.size() - 1;
    }

    int type(int c) {
        if (!in(c, 0, 127)) return refuse(BAD);
        if (text.length() == 150) return refuse(FULL);
        text.append((char) c);
        return text.length();
    }

    int clear() { int n = text.length(); text.setLength(0); return n; }

    static final class Fault extends Exception {
        static final long serialVersionUID = 1;
        final int place;
        Fault(int place) { this.place = place; }
    }

    private List<Integer> starts;
    private List<String> tokens;
    private int next;
    private Stand read;

    int read() {
        starts = new ArrayList<>();
        tokens = new ArrayList<>();
        Matcher m = Pattern.compile("[a-z]+|[0-9]+|[^ ]", Pattern.DOTALL).matcher(text);
        while (m.find()) { starts.add(m.start()); tokens.add(m.group()); }
        next = 0;
        read = null;
        int items = 0;
        try {
            while (items == 0 || next < tokens.size()) { item(); items++; }
        } catch (Fault f) {
            return -10 - f.place;
        }
        now = read;
        undo.clear();
        return items;
    }

    private String peek() throws Fault {
        if (next >= tokens.size()) throw new Fault(text.length());
        return tokens.get(next);
    }

    private void need(boolean ok) throws Fault {
        if (!ok) throw new Fault(starts.get(next));
    }

    private int number() throws Fault {
        need(peek().matches("[0-9]{1,2}"));
        return Integer.parseInt(peek());
    }

    private void item() throws Fault {
        String word = peek();
        need(List.of("field", "thicket", "fox", "goose", "go", "move", "pass").contains(word));
        need(word.equals("field") == (read == null));
        if (word.equals("goose")) need(read.geese.size() < 4);
        if (word.equals("pass")) need(read.turn == 0 && read.how() == 0 && read.options().isEmpty());
        next++;
        if (word.equals("field")) {
            int w = number(); need(in(w, 3, 5)); next++;
            int h = number(); need(in(h, 3, 5)); next++;
            read = fresh(w, h);
        } else if (word.equals("pass")) {
            read = read.passed();
        } else {
            int a = -1;
            if (word.equals("fox") || word.equals("goose")) { a = number(); need(in(a, 0, 5)); next++; }
            if (word.equals("move")) {
                a = number(); need(a < read.geese.size() && read.geese.get(a)[1] >= 0); next++;
            }
            int c = number();
            need(read.cell(c));
            boolean free = read.empty(c % read.w, c / read.w);
            if (word.equals("thicket")) { need(free); read.thickets.add(c); }
            if (word.equals("goose")) { need(free); read.geese.add(new int[] {a, c}); }
            if (word.equals("fox")) {
                need(free || c == read.foxCell());
                read.foxKind = a; read.foxX = c % read.w; read.foxY = c / read.w;
            }
            if (word.equals("go") || word.equals("move")) {
                int option = (word.equals("go") ? 400 : 100 * a) + c;
                need(read.how() == 0 && read.options().contains(option));
                read = read.after(option);
            }
            next++;
        }
        need(peek().equals(";"));
        next++;
    }

    private void push() {
        undo.addLast(now);
        if (undo.size() > 8) undo.removeFirst();
    }

    private boolean allowed(int option) {
        return now.how() == 0 && now.moves < 9999 && now.options().contains(option);
    }

    int goes(int c) {
        if (!now.cell(c)) return refuse(BAD);
        if (!allowed(400 + c)) return refuse(NO);
        int prey = now.steps(4).get(c);
        push();
        now = now.after(400 + c);
        return prey >= 0 ? 1 : 0;
    }

    private boolean alive(int i) { return in(i, 0, now.geese.size() - 1) && now.geese.get(i)[1] >= 0; }

    int moves(int i, int c) {
        if (!alive(i) || !now.cell(c)) return refuse(BAD);
        if (!allowed(100 * i + c)) return refuse(NO);
        int before = now.geese.get(i)[1];
        push();
        now = now.after(100 * i + c);
        return before;
    }

    int passes() {
        if (now.how() != 0 || now.moves >= 9999 || now.turn != 0 || !now.options().isEmpty()) return refuse(NO);
        push();
        now = now.passed();
        return now.moves;
    }

    int undo() {
        if (undo.isEmpty()) return refuse(NO);
        Stand old = undo.removeLast().copy();
        old.notes = now.notes;
        old.marks = now.marks;
        now = old;
        return now.moves;
    }

    int of(int i, int what) {
        if (i != 4 && !in(i, 0, now.geese.size() - 1) || !in(what, 0, 1)) return refuse(BAD);
        if (i == 4) return what == 0 ? now.foxKind : now.foxCell();
        return now.geese.get(i)[what];
    }

    static int bits(Iterable<Integer> cells) { int b = 0; for (int c : cells) b += 1 << c; return b; }

    int can(int i) {
        if (i != 4 && !alive(i)) return refuse(BAD);
        return bits(now.steps(i).keySet());
    }

    static int worthOf(Stand s, int n) {
        if (s.how() != 0) return s.how() == 2 ? 99 : 0;
        if (n == 0) return s.steps(4).size();
        TreeSet<Integer> worths = new TreeSet<>();
        for (int o : s.options()) worths.add(worthOf(s.after(o), n - 1));
        if (worths.isEmpty()) return worthOf(s.passed(), n - 1);
        return s.turn == 1 ? worths.last() : worths.first();
    }

    int worth(int n) { return in(n, 0, 4) ? worthOf(now, n) : refuse(BAD); }

    int best(int n) {
        if (!in(n, 1, 4)) return refuse(BAD);
        if (now.how() != 0) return -1;
        int worth = worthOf(now, n);
        for (int o : now.options()) if (worthOf(now.after(o), n - 1) == worth) return o;
        return -1;
    }

    int few() {
        ArrayDeque<Stand> queue = new ArrayDeque<>();
        TreeSet<Integer> seen = new TreeSet<>();
        queue.add(now);
        while (!queue.isEmpty()) {
            Stand s = queue.removeFirst();
            if (s.home()) return s.moves - now.moves;
            if (!seen.add(100 * (s.moves % 2) + s.foxCell())) continue;
            s.steps(4).forEach((c, prey) -> { if (prey < 0) queue.addLast(s.after(400 + c)); });
        }
        return -1;
    }

    /** Above and below, not in lowest terms. */
    static BigInteger[] luckOf(Stand s, int n) {
        if (s.home()) return new BigInteger[] {BigInteger.ONE, BigInteger.ONE};
        if (n == 0) return new BigInteger[] {BigInteger.ZERO, BigInteger.ONE};
        TreeSet<Integer> cells = new TreeSet<>(s.steps(4).keySet());
        if (cells.isEmpty()) return luckOf(s.passed(), n - 1);
        BigInteger a = BigInteger.ZERO, b = BigInteger.ONE;
        for (int c : cells) {
            BigInteger[] f = luckOf(s.after(400 + c), n - 1);
            a = a.multiply(f[1]).add(f[0].multiply(b));
            b = b.multiply(f[1]);
            BigInteger g = a.gcd(b);
            a = a.divide(g);
            b = b.divide(g);
        }
        return new BigInteger[] {a, b.multiply(BigInteger.valueOf(cells.size()))};
    }

    int luck(int n) {
        if (!in(n, 0, 4)) return refuse(BAD);
        BigInteger[] f = luckOf(now, n);
        BigInteger g = f[0].gcd(f[1]);
        above = f[0].divide(g);
        below = f[1].divide(g);
        return 1;
    }

    int note(int dx, int dy, int m, int over, int may) {
        if (!in(dx, -2, 2) || !in(dy, -2, 2) || !in(m, 0, 99) || !in(over, 0, 1) || !in(may, 0, 1)) return refuse(BAD);
        if (now.notes.size() == 6) return refuse(FULL);
        now.notes.add(new int[] {dx, dy, m, over, may});
        return now.notes.size();
    }

    int mark(int i, int dx, int dy, int m, int may) {
        if (!in(i, 0, now.geese.size() - 1) || !in(dx, -2, 2) || !in(dy, -2, 2) || !in(m, 0, 99) || !in(may, 0, 1)) {
            return refuse(BAD);
        }
        if (now.marks.size() == 6) return refuse(FULL);
        now.marks.add(new int[] {i, dx, dy, m, may});
        return now.marks.size();
    }

    int forget(int what) {
        if (!in(what, 0, 1)) return refuse(BAD);
        List<int[]> list = what == 0 ? now.notes : now.marks;
        int n = list.size();
        list.clear();
        return n;
    }

    TreeSet<Integer> foxes() {
        TreeSet<Integer> fit = new TreeSet<>();
        for (int k = 0; k < 6; k++) {
            int kind = k;
            if (now.notes.stream().allMatch(n -> foxMay(kind, n[0], n[1], n[2], n[3] == 1) == (n[4] == 1))) fit.add(k);
        }
        return fit;
    }

    TreeSet<Integer> gooseKinds(int i) {
        TreeSet<Integer> fit = new TreeSet<>();
        for (int k = 0; k < 6; k++) {
            int kind = k;
            if (now.marks.stream().allMatch(n -> n[0] != i || gooseMay(kind, n[1], n[2], n[3]) == (n[4] == 1))) fit.add(k);
        }
        return fit;
    }

    int is() { return bits(foxes()); }

    int look() {
        TreeSet<Integer> fit = foxes();
        TreeSet<Integer> ranked = new TreeSet<>();
        for (int over = 0; over < 2; over++) for (int dx = -2; dx <= 2; dx++) for (int dy = -2; dy <= 2; dy++)
            for (int m = 0; m < 6; m++) {
                int yes = 0;
                for (int k : fit) if (foxMay(k, dx, dy, m, over == 1)) yes++;
                ranked.add(10000 * Math.max(yes, fit.size() - yes) + 1000 * over + 100 * (dx + 2) + 10 * (dy + 2) + m);
            }
        return fit.isEmpty() ? -1 : ranked.first() % 10000;
    }

    int kinds(int i) { return in(i, 0, now.geese.size() - 1) ? bits(gooseKinds(i)) : refuse(BAD); }

    int ask(int i) {
        if (!in(i, 0, now.geese.size() - 1)) return refuse(BAD);
        TreeSet<Integer> fit = gooseKinds(i);
        TreeSet<Integer> ranked = new TreeSet<>();
        for (int dx = -2; dx <= 2; dx++) for (int dy = -2; dy <= 2; dy++) for (int m = 0; m < 10; m++) {
            int yes = 0;
            for (int k : fit) if (gooseMay(k, dx, dy, m)) yes++;
            ranked.add(10000 * Math.max(yes, fit.size() - yes) + 100 * (dx + 2) + 10 * (dy + 2) + m);
        }
        return fit.isEmpty() ? -1 : ranked.first() % 10000;
    }

    int evenings(int seed, int n) {
        if (!in(seed, 0, 999999) || !in(n, 0, 60)) return refuse(BAD);
        BigInteger x = BigInteger.valueOf(seed);
        Stand s = now;
        for (int k = 0; k < n && s.how() == 0; k++) {
            x = x.multiply(BigInteger.valueOf(1103515245)).add(BigInteger.valueOf(12345)).mod(BigInteger.ONE.shiftLeft(31));
            List<Integer> options = new ArrayList<>(s.options());
            int pick = x.shiftRight(16).intValue();
            s = options.isEmpty() ? s.passed() : s.after(options.get(pick % options.size()));
        }
        return s.how();
    }

    long part(int what) {
        if (!in(what, 0, 1)) return refuse(BAD);
        return (what == 0 ? above : below).longValueExact();
    }

    int image(int i) {
        if (!in(i, 0, 1)) return refuse(BAD);
        images[i] = now.copy();
        imageUndo.set(i, new ArrayList<>(undo));
        return 1;
    }

    int from(int i) {
        if (!in(i, 0, 1)) return refuse(BAD);
        if (images[i] == null) return refuse(NO);
        now = images[i].copy();
        undo = new ArrayDeque<>(imageUndo.get(i));
        return 1;
    }

    int status(int what) {
        if (!in(what, 0, 2)) { refuse(BAD); return -1; }
        return status[what];
    }

    int count(int what) {
        int[] all = {now.w, now.h, now.geese.size(), (int) now.geese.stream().filter(g -> g[1] < 0).count(), now.turn,
            now.moves, now.steps(4).size(), now.how(), now.thickets.size(), now.notes.size(), now.marks.size(),
            undo.size(), text.length()};
        return in(what, 0, 12) ? all[what] : refuse(BAD);
    }

    long digest() {
        List<Long> all = new ArrayList<>();
        for (int k = 0; k < 13; k++) all.add((long) count(k));
        all.add((long) bits(now.thickets));
        all.add((long) now.foxKind);
        all.add((long) now.foxCell());
        for (List<int[]> list : List.of(now.geese, now.notes, now.marks)) {
            for (int[] row : list) for (int v : row) all.add((long) v);
        }
        all.add(above.longValueExact());
        all.add(below.longValueExact());
        long h = 1847;
        for (long v : all) h = 31 * h + v;
        return h;
    }
}
