import java.util.ArrayList;
import java.util.List;
import java.util.Random;

/** Long runs of calls at random (by fixed seeds), every answer held against the Oracle's. */
public final class OracleTest {
    private static final int RUNS = 1500, CALLS = 512;
    private final Random random;
    private final FoxGeese real = new FoxGeese();
    private final Oracle oracle = new Oracle();
    private final List<String> calls = new ArrayList<>();
    private final int dear;
    private boolean wrong = false;

    private OracleTest(int seed) {
        random = new Random(seed);
        dear = seed % 5;
    }

    private void same(String call, long got, long due) {
        calls.add(call + " -> " + due);
        if (got != due && !wrong) {
            wrong = true;
            for (String c : calls) System.out.println("  " + c);
            System.out.println(call + " answered " + got + ", due is " + due);
        }
    }

    /** Mostly between the two; now and then just beside, or far off. */
    private int num(int lo, int hi) {
        int r = random.nextInt(60);
        if (r == 0) return lo - 1;
        if (r == 1) return hi + 1;
        if (r == 2) return random.nextBoolean() ? Integer.MIN_VALUE : Integer.MAX_VALUE;
        return lo + random.nextInt(hi - lo + 1);
    }

    private int cells() { return oracle.now.w * oracle.now.h - 1; }

    private void setUp() {
        int w = num(3, 5), h = num(3, 5);
        same("field(" + w + ", " + h + ")", real.field(w, h), oracle.field(w, h));
        for (int k = random.nextInt(4); k > 0; k--) thicket();
        if (random.nextInt(4) > 0) fox();
        for (int k = random.nextInt(6); k > 0; k--) goose();
    }

    private void thicket() {
        int c = num(0, cells());
        same("thicket(" + c + ")", real.thicket(c), oracle.thicket(c));
    }

    private void fox() {
        int kind = num(0, 5), c = num(random.nextInt(5) > 0 ? oracle.now.w : 0, cells());
        same("fox(" + kind + ", " + c + ")", real.fox(kind, c), oracle.fox(kind, c));
    }

    private void goose() {
        int kind = num(0, 5), c = num(0, cells());
        same("goose(" + kind + ", " + c + ")", real.goose(kind, c), oracle.goose(kind, c));
    }

    /** A move that can be done, if there is one. */
    private void move() {
        List<Integer> options = new ArrayList<>(oracle.now.options());
        if (oracle.now.how() != 0 || options.isEmpty() || random.nextInt(12) == 0) {
            if (random.nextBoolean()) {
                same("passes()", real.passes(), oracle.passes());
            } else if (random.nextBoolean()) {
                int c = num(0, cells());
                same("goes(" + c + ")", real.goes(c), oracle.goes(c));
            } else {
                int i = num(0, 3), c = num(0, cells());
                same("moves(" + i + ", " + c + ")", real.moves(i, c), oracle.moves(i, c));
            }
            return;
        }
        List<Integer> leaps = leaps();
        if (!leaps.isEmpty() && random.nextBoolean()) options = leaps;
        int option = options.get(random.nextInt(options.size())), who = option / 100, c = option % 100;
        if (who == 4) same("goes(" + c + ")", real.goes(c), oracle.goes(c));
        else same("moves(" + who + ", " + c + ")", real.moves(who, c), oracle.moves(who, c));
    }

    /** Her moves by which a goose is eaten: at random they would come too seldom. */
    private List<Integer> leaps() {
        List<Integer> out = new ArrayList<>();
        if (oracle.now.turn == 1) oracle.now.steps(4).forEach((c, prey) -> { if (prey >= 0) out.add(400 + c); });
        return out;
    }

    private void typeAll(String text) {
        same("clear()", real.clear(), oracle.clear());
        for (char c : text.toCharArray()) same("type(" + (int) c + ")", real.type(c), oracle.type(c));
        calls.add("-- text '" + text + "'");
        same("read()", real.read(), oracle.read());
    }

    private String blanks() { return " ".repeat(random.nextInt(8) == 0 ? random.nextInt(3) : 1); }

    /** A field told rightly as the Oracle reads it on, then perhaps spoilt in one place. */
    private String text() {
        StringBuilder b = new StringBuilder();
        int w = 3 + random.nextInt(3), h = 3 + random.nextInt(3);
        b.append("field").append(blanks()).append(w).append(blanks()).append(h).append(";");
        Oracle probe = new Oracle();
        probe.field(w, h);
        for (int k = random.nextInt(14); k > 0 && b.length() < 140; k--) {
            if (random.nextInt(6) == 0) b.append(' ');
            int c = random.nextInt(w * h), kind = random.nextInt(6);
            switch (random.nextInt(6)) {
                case 0: b.append("thicket ").append(c).append(";"); probe.thicket(c); break;
                case 1: b.append("fox ").append(kind).append(blanks()).append(c).append(";"); probe.fox(kind, c); break;
                case 2: case 3:
                    if (probe.goose(kind, c) >= 0 || random.nextInt(5) == 0) {
                        b.append("goose ").append(kind).append(" ").append(c < 10 && random.nextBoolean() ? "0" : "").append(c).append(";");
                    }
                    break;
                default:
                    List<Integer> options = new ArrayList<>(probe.now.options());
                    if (options.isEmpty()) { b.append("pass;"); probe.passes(); break; }
                    int o = options.get(random.nextInt(options.size()));
                    if (o >= 400) { b.append("go ").append(o % 100).append(";"); probe.goes(o % 100); }
                    else { b.append("move ").append(o / 100).append(" ").append(o % 100).append(";"); probe.moves(o / 100, o % 100); }
            }
        }
        int r = random.nextInt(8), at = random.nextInt(b.length());
        String odd = "afgopsm0123459;; \t\u007fAZ{`/:-";
        if (r == 0) b.setCharAt(at, odd.charAt(random.nextInt(odd.length())));
        if (r == 1) b.deleteCharAt(at);
        if (r == 2) b.insert(at, odd.charAt(random.nextInt(odd.length())));
        if (r == 3) b.setLength(at);
        if (b.length() > 160) b.setLength(160);
        return b.toString();
    }

    private void told() {
        int dx = num(-2, 2), dy = num(-2, 2), m = num(0, random.nextBoolean() ? 11 : 99), may = num(0, 1), x = num(0, 1), i = num(0, 3);
        if (random.nextInt(3) > 0 && Oracle.in(m, 0, 99) && Oracle.in(dx, -2, 2)) {
            may = Oracle.foxMay(oracle.now.foxKind, dx, dy, m, x == 1) ? 1 : 0;
        }
        if (random.nextBoolean()) {
            same("note(" + dx + ", " + dy + ", " + m + ", " + x + ", " + may + ")", real.note(dx, dy, m, x, may), oracle.note(dx, dy, m, x, may));
        } else {
            if (Oracle.in(i, 0, oracle.now.geese.size() - 1) && m >= 0 && random.nextInt(3) > 0) {
                may = Oracle.gooseMay(oracle.now.geese.get(i)[0], dx, dy, m) ? 1 : 0;
            }
            same("mark(" + i + ", " + dx + ", " + dy + ", " + m + ", " + may + ")", real.mark(i, dx, dy, m, may), oracle.mark(i, dx, dy, m, may));
        }
    }

    private void ask() {
        int what = random.nextInt(16), i = num(0, 4), n = num(0, 3);
        if (dear == 0 && random.nextInt(10) == 0) n = num(0, 4);
        switch (what) {
            case 0: same("can(" + i + ")", real.can(i), oracle.can(i)); break;
            case 1: same("worth(" + n + ")", real.worth(n), oracle.worth(n)); break;
            case 2: same("best(" + n + ")", real.best(n), oracle.best(n)); break;
            case 3: same("few()", real.few(), oracle.few()); break;
            case 4: n = num(0, 4); same("luck(" + n + ")", real.luck(n), oracle.luck(n)); break;
            case 5: same("part(0)", real.part(0), oracle.part(0)); same("part(1)", real.part(1), oracle.part(1)); break;
            case 6: same("is()", real.is(), oracle.is()); break;
            case 7: same("look()", real.look(), oracle.look()); break;
            case 8: i = num(0, 3); same("kinds(" + i + ")", real.kinds(i), oracle.kinds(i)); break;
            case 9: i = num(0, 3); same("ask(" + i + ")", real.ask(i), oracle.ask(i)); break;
            case 10:
                int seed = num(0, 999999); n = num(0, 60);
                same("evenings(" + seed + ", " + n + ")", real.evenings(seed, n), oracle.evenings(seed, n));
                break;
            case 11: i = num(0, 2); same("status(" + i + ")", real.status(i), oracle.status(i)); break;
            case 12: i = num(0, 12); same("count(" + i + ")", real.count(i), oracle.count(i)); break;
            case 13: n = num(0, 1); same("of(" + i + ", " + n + ")", real.of(i, n), oracle.of(i, n)); break;
            case 14: i = num(0, 1); same("part(" + i + ")", real.part(i), oracle.part(i)); break;
            default: same("digest()", real.digest(), oracle.digest()); break;
        }
    }

    private void keep() {
        int i = num(0, 1);
        switch (random.nextInt(4)) {
            case 0: same("image(" + i + ")", real.image(i), oracle.image(i)); break;
            case 1: same("from(" + i + ")", real.from(i), oracle.from(i)); break;
            case 2: same("forget(" + i + ")", real.forget(i), oracle.forget(i)); break;
            default: int c = num(0, 127); same("type(" + c + ")", real.type(c), oracle.type(c)); break;
        }
    }

    private boolean run() {
        if (random.nextBoolean()) setUp();
        while (calls.size() < CALLS - 170 && !wrong) {
            int r = random.nextInt(100);
            if (r < 35) move();
            else if (r < 40) same("undo()", real.undo(), oracle.undo());
            else if (r < 75) ask();
            else if (r < 86) told();
            else if (r < 92) keep();
            else if (r < 93) setUp();
            else if (r < 94) typeAll(text());
            else if (r < 96) thicket();
            else if (r < 98) goose();
            else fox();
        }
        typeAll(text());
        same("digest()", real.digest(), oracle.digest());
        return !wrong;
    }

    public static void main(String[] args) {
        int wrongRuns = 0;
        for (int seed = 0; seed < RUNS && wrongRuns < 3; seed++) if (!new OracleTest(seed).run()) wrongRuns++;
        System.out.println(wrongRuns == 0 ? "all runs agree with the oracle" : wrongRuns + " runs do not agree");
        if (wrongRuns != 0) System.exit(1);
    }
}
