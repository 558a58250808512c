import java.math.BigInteger;
import java.util.ArrayList;
import java.util.List;
import java.util.function.Supplier;

/** The edges that the document names for notes, marks, who it is, and evenings by a seed: promises 19 to 26. */
public final class EdgesWhoTest extends Edges {
    /** Steps of the fox by which the kinds differ: dx, dy, m, over. */
    private static final int[][] TELLING = {{0, 1, 1, 0}, {1, 1, 0, 0}, {1, 1, 1, 0}, {2, 0, 0, 1}, {2, 2, 0, 1}, {0, 0, 0, 0}};
    /** Steps of a goose by which the kinds differ: dx, dy, m. */
    private static final int[][] MARKING = {{1, 0, 0}, {1, 0, 2}, {1, 0, 4}, {0, 1, 4}, {1, 1, 0}, {0, -1, 0}, {0, 0, 0}};

    private static FoxGeese twoGeese() {
        return told("field 3 3;goose 0 0;goose 0 1;");
    }

    private static FoxGeese sixNotes() {
        FoxGeese x = rich();
        for (int n = x.count(9); n < 6; n++) x.note(0, 1, n, 0, 1);
        return x;
    }

    private static FoxGeese sixMarks() {
        FoxGeese x = rich();
        for (int n = x.count(10); n < 6; n++) x.mark(2, 0, 1, n, 1);
        return x;
    }

    @Holds(promise = {19}, words = "NOTES 0 .. 5, as they come:")
    static void notesUntilSix() {
        FoxGeese x = new FoxGeese();
        due("none at first", x.count(9), 0);
        for (int n = 1; n <= 6; n++) {
            due("a note", x.note(0, 1, n, 0, 1), n);
            due("how many", x.count(9), n);
        }
        due("a seventh", x.note(0, 1, 7, 0, 1), FULL);
        FoxGeese ab = new FoxGeese(), ba = new FoxGeese();
        ab.note(0, 1, 1, 0, 1);
        ab.note(1, 0, 1, 0, 1);
        ba.note(1, 0, 1, 0, 1);
        ba.note(0, 1, 1, 0, 1);
        Due.holds("their order is kept", ab.digest() != ba.digest());
    }

    @Holds(promise = {19}, words = "a STEP of the FOX by dx, dy (-2 .. 2 each)")
    static void noteSteps() {
        for (int d : new int[] {-2, 2}) {
            due("note(" + d + ", 0, ..)", new FoxGeese().note(d, 0, 0, 0, 0), 1);
            due("note(0, " + d + ", ..)", new FoxGeese().note(0, d, 0, 0, 0), 1);
        }
        for (int d : new int[] {-3, 3, Integer.MIN_VALUE, Integer.MAX_VALUE}) {
            refused("note(" + d + ", 0, ..)", Edges::rich, x -> x.note(d, 0, 0, 0, 0), BAD);
            refused("note(0, " + d + ", ..)", Edges::rich, x -> x.note(0, d, 0, 0, 0), BAD);
        }
    }

    @Holds(promise = {19}, words = "in MOVE m (0 .. 99), OVER a GOOSE (1) or not (0),")
    static void noteMovesAndOver() {
        for (int m : new int[] {0, 99}) due("m " + m, new FoxGeese().note(0, 1, m, 0, 0), 1);
        for (int over : new int[] {0, 1}) due("over " + over, new FoxGeese().note(0, 1, 0, over, 0), 1);
        for (int m : new int[] {-1, 100, Integer.MIN_VALUE, Integer.MAX_VALUE}) {
            refused("m " + m, Edges::rich, x -> x.note(0, 1, m, 0, 0), BAD);
        }
        for (int over : new int[] {-1, 2, Integer.MIN_VALUE, Integer.MAX_VALUE}) {
            refused("over " + over, Edges::rich, x -> x.note(0, 1, 0, over, 0), BAD);
        }
    }

    @Holds(promise = {19}, words = "was one she might do (1) or not (0).")
    static void noteMightOrNot() {
        FoxGeese might = new FoxGeese(), not = new FoxGeese();
        due("might", might.note(1, 1, 0, 0, 1), 1);
        due("not", not.note(1, 1, 0, 0, 0), 1);
        due("who might", might.is(), bits(1, 5));
        due("who not", not.is(), bits(0, 2, 3, 4));
        for (int may : new int[] {-1, 2, Integer.MIN_VALUE, Integer.MAX_VALUE}) {
            refused("may " + may, Edges::rich, x -> x.note(0, 1, 0, 0, may), BAD);
        }
    }

    @Holds(promise = {19}, words = "A NOTE: how many there are. BAD; FULL: 6.")
    static void noteFull() {
        due("the sixth", sixNotes().count(9), 6);
        refused("a seventh", EdgesWhoTest::sixNotes, x -> x.note(0, 1, 0, 0, 1), FULL);
        refused("BAD ahead of FULL", EdgesWhoTest::sixNotes, x -> x.note(3, 1, 0, 0, 1), BAD);
        refused("BAD ahead of FULL, the last number", EdgesWhoTest::sixNotes, x -> x.note(0, 1, 0, 0, 2), BAD);
        FoxGeese x = sixNotes();
        x.forget(0);
        due("room again", x.note(0, 1, 0, 0, 1), 1);
        due("marks are no notes", sixMarks().note(0, 1, 0, 0, 1), 3);
    }

    @Holds(promise = {22}, words = "IS: KINDS (bits) of FOXES by which all NOTES are so.")
    static void isFromNoneToAll() {
        due("no notes: all", new FoxGeese().is(), 63);
        FoxGeese x = new FoxGeese();
        x.note(0, 0, 0, 0, 1);
        due("what nobody may: none", x.is(), 0);
        FoxGeese y = new FoxGeese();
        int[][] notes = {{0, 1, 1, 0, 1}, {1, 1, 1, 0, 0}, {1, 1, 0, 0, 0}, {2, 2, 0, 1, 0}, {2, 0, 0, 1, 0}, {0, 0, 0, 0, 1}};
        int[] kinds = {bits(0, 1, 2, 4, 5), bits(0, 2, 4, 5), bits(0, 2, 4), bits(0, 2), bits(0), 0};
        for (int n = 0; n < 6; n++) {
            y.note(notes[n][0], notes[n][1], notes[n][2], notes[n][3], notes[n][4]);
            due("by " + (n + 1) + " notes", y.is(), kinds[n]);
        }
        y.forget(0);
        due("forgotten: all", y.is(), 63);
    }

    @Holds(promise = {22}, words = "IS, as bits.")
    static void isAsBits() {
        int[][][] notes = {{{0, 1, 1, 0, 1}, {1, 1, 0, 0, 0}, {2, 0, 0, 1, 0}}, {{1, 1, 1, 0, 1}},
            {{2, 0, 0, 1, 1}, {2, 2, 0, 1, 0}}, {{0, 1, 1, 0, 0}}, {{2, 2, 0, 1, 1}}, {{1, 1, 0, 0, 1}, {1, 1, 1, 0, 0}}};
        for (int kind = 0; kind < 6; kind++) {
            FoxGeese x = new FoxGeese();
            for (int[] n : notes[kind]) x.note(n[0], n[1], n[2], n[3], n[4]);
            due("kind " + kind + " alone", x.is(), 1 << kind);
        }
        leaves("none is no refusal", () -> {
            FoxGeese x = rich();
            x.note(0, 0, 0, 0, 1);
            return x;
        }, FoxGeese::is, 0);
    }

    /** By notes alone: the code that parts the kinds best, for each way to be told of three of the telling steps. */
    private static void looksAsItIs(List<int[]> notes) {
        FoxGeese x = new FoxGeese();
        for (int[] n : notes) x.note(n[0], n[1], n[2], n[3], n[4]);
        int fit = x.is(), found = NONE, least = 7;
        for (int code = 0; code < 1446 && fit != 0; code++) {
            if (MAY[code] < 0) continue;
            int greater = Math.max(Integer.bitCount(fit & MAY[code]), Integer.bitCount(fit & ~MAY[code]));
            if (greater < least) {
                least = greater;
                found = code;
            }
        }
        due("look() among kinds " + fit, x.look(), found);
    }

    /** Who may do the step of a code, as notes of it tell; -1 where there is no such code. */
    private static final int[] MAY = new int[1446];

    static {
        for (int code = 0; code < MAY.length; code++) {
            int dx = code / 100 % 10 - 2, dy = code / 10 % 10 - 2, m = code % 10;
            FoxGeese x = new FoxGeese();
            boolean told = m <= 5 && x.note(dx, dy, m, code / 1000, 1) == 1;
            MAY[code] = told ? x.is() : -1;
        }
    }

    @Holds(promise = {23}, words = "to which these KINDS are parted most evenly (the greater part, who may or who may not, is least);")
    static void lookPartsMostEvenly() {
        for (int a = 0; a < 12; a++) {
            for (int b = 0; b < 12; b++) {
                for (int c = 0; c < 12; c++) {
                    List<int[]> notes = new ArrayList<>();
                    for (int k : new int[] {a, b, c}) {
                        int[] n = TELLING[k / 2];
                        notes.add(new int[] {n[0], n[1], n[2], n[3], k % 2});
                    }
                    looksAsItIs(notes);
                }
            }
        }
    }

    private static FoxGeese noted(int[]... notes) {
        FoxGeese x = new FoxGeese();
        for (int[] n : notes) x.note(n[0], n[1], n[2], n[3], n[4]);
        return x;
    }

    @Holds(promise = {23}, words = "LOOK: 1000 times OVER (0, 1), 100 times dx and 2, 10 times dy and 2, and m (0 .. 5), together,")
    static void lookCodes() {
        due("all six: aslant", new FoxGeese().look(), 110);
        due("sly and old: aslant in move 1", noted(new int[] {1, 1, 0, 0, 1}).look(), 111);
        due("leaper and hungry: by two and two over one", noted(new int[] {2, 0, 0, 1, 1}).look(), 1000);
        due("plain, leaper, lame, hungry: by two aside over one", noted(new int[] {1, 1, 0, 0, 0}).look(), 1020);
        due("plain and lame: along in move 1", noted(new int[] {1, 1, 0, 0, 0}, new int[] {2, 0, 0, 1, 0}).look(), 211);
    }

    @Holds(promise = {23}, words = "of like ones the least; none: no KIND.")
    static void lookLeastAndNone() {
        due("one kind: all are like", noted(new int[] {2, 2, 0, 1, 1}).look(), 0);
        due("one kind, another", noted(new int[] {0, 1, 1, 0, 0}).look(), 0);
        due("no kind", noted(new int[] {0, 0, 0, 0, 1}).look(), NONE);
    }

    @Holds(promise = {23}, words = "LOOK. NONE.")
    static void lookNoneIsNoRefusal() {
        leaves("none", () -> noted(new int[] {0, 0, 0, 0, 1}), FoxGeese::look, NONE);
        leaves("nought", () -> noted(new int[] {2, 2, 0, 1, 1}), FoxGeese::look, 0);
    }

    @Holds(promise = {20}, words = "MARKS 0 .. 5, as they come: of a GOOSE a STEP by dx, dy (-2 .. 2 each) in MOVE m (0 .. 99)")
    static void marksUntilSix() {
        FoxGeese x = twoGeese();
        due("none at first", x.count(10), 0);
        for (int n = 1; n <= 6; n++) {
            due("a mark", x.mark(n % 2, 0, 1, n, 1), n);
            due("how many", x.count(10), n);
        }
        due("a seventh", x.mark(0, 0, 1, 7, 1), FULL);
        for (int d : new int[] {-2, 2}) {
            due("mark(0, " + d + ", 0, ..)", twoGeese().mark(0, d, 0, 0, 0), 1);
            due("mark(0, 0, " + d + ", ..)", twoGeese().mark(0, 0, d, 0, 0), 1);
        }
        for (int d : new int[] {-3, 3, Integer.MIN_VALUE, Integer.MAX_VALUE}) {
            refused("mark(1, " + d + ", 0, ..)", Edges::rich, f -> f.mark(1, d, 0, 0, 0), BAD);
            refused("mark(1, 0, " + d + ", ..)", Edges::rich, f -> f.mark(1, 0, d, 0, 0), BAD);
        }
        for (int m : new int[] {0, 99}) due("m " + m, twoGeese().mark(1, 0, 1, m, 0), 1);
        for (int m : new int[] {-1, 100, Integer.MIN_VALUE, Integer.MAX_VALUE}) {
            refused("m " + m, Edges::rich, f -> f.mark(1, 0, 1, m, 0), BAD);
        }
    }

    @Holds(promise = {20}, words = "was one that it might do (1) or not (0).")
    static void markMightOrNot() {
        FoxGeese might = twoGeese(), not = twoGeese();
        due("might", might.mark(0, 1, 1, 0, 1), 1);
        due("not", not.mark(0, 1, 1, 0, 0), 1);
        due("who might", might.kinds(0), bits(1, 3));
        due("who not", not.kinds(0), bits(0, 2, 4, 5));
        for (int may : new int[] {-1, 2, Integer.MIN_VALUE, Integer.MAX_VALUE}) {
            refused("may " + may, Edges::rich, x -> x.mark(1, 0, 1, 0, may), BAD);
        }
    }

    @Holds(promise = {20}, words = "A MARK: how many there are. BAD; FULL: 6.")
    static void markFull() {
        for (int i : new int[] {-1, 3, 4, Integer.MIN_VALUE, Integer.MAX_VALUE}) {
            refused("mark(" + i + ", ..)", Edges::rich, x -> x.mark(i, 0, 1, 0, 1), BAD);
            refused("BAD ahead of FULL: mark(" + i + ", ..)", EdgesWhoTest::sixMarks, x -> x.mark(i, 0, 1, 0, 1), BAD);
        }
        refused("no geese", FoxGeese::new, x -> x.mark(0, 0, 1, 0, 1), BAD);
        due("the last goose", rich().mark(2, 0, 1, 0, 1), 2);
        due("the eaten one is a goose, too", rich().mark(0, 0, 1, 0, 1), 2);
        due("the sixth", sixMarks().count(10), 6);
        refused("a seventh", EdgesWhoTest::sixMarks, x -> x.mark(1, 0, 1, 0, 1), FULL);
        refused("BAD ahead of FULL, the last number", EdgesWhoTest::sixMarks, x -> x.mark(1, 0, 1, 0, 2), BAD);
        FoxGeese x = sixMarks();
        x.forget(1);
        due("room again", x.mark(1, 0, 1, 0, 1), 1);
        due("notes are no marks", sixNotes().mark(1, 0, 1, 0, 1), 2);
    }

    @Holds(promise = {21}, words = "No NOTES (0), MARKS (1): how many there were.")
    static void forgetTellsHowMany() {
        for (int n = 0; n <= 6; n++) {
            FoxGeese x = twoGeese();
            for (int k = 0; k < n; k++) {
                x.note(0, 0, 0, 0, 1);
                if (k < 5) x.mark(0, 0, 0, 0, 1);
            }
            due("notes", x.forget(0), n);
            due("marks stay", x.count(10), Math.min(n, 5));
            due("none are left", x.forget(0), 0);
            due("all kinds of foxes again", x.is(), 63);
            due("marks", x.forget(1), Math.min(n, 5));
            due("none are left", x.forget(1), 0);
            due("all kinds of geese again", x.kinds(0), 63);
        }
        FoxGeese y = rich();
        y.forget(1);
        due("notes stay", y.count(9), 2);
        due("what may be undone stays", y.count(11), 3);
    }

    @Holds(promise = {21}, words = "BAD.")
    static void forgetOutside() {
        for (int what : new int[] {-1, 2, Integer.MIN_VALUE, Integer.MAX_VALUE}) {
            refused("forget(" + what + ")", Edges::rich, x -> x.forget(what), BAD);
        }
    }

    @Holds(promise = {24}, words = "WHAT: KINDS of GEESE (bits) by which all MARKS of one are so.")
    static void kindsFromNoneToAll() {
        FoxGeese x = twoGeese();
        int[][] marks = {{1, 0, 2, 0}, {0, 1, 4, 1}, {1, 0, 0, 1}, {0, 0, 0, 1}};
        int[] kinds = {bits(2, 4, 5), bits(2, 5), bits(2), 0};
        due("no marks: all", x.kinds(1), 63);
        for (int n = 0; n < 4; n++) {
            x.mark(1, marks[n][0], marks[n][1], marks[n][2], marks[n][3]);
            due("by " + (n + 1) + " marks", x.kinds(1), kinds[n]);
            due("the other's", x.kinds(0), 63);
        }
        FoxGeese four = told("field 3 3;goose 0 0;goose 0 1;goose 0 2;goose 0 3;");
        for (int i = 0; i < 4; i++) four.mark(i, 1, i % 2, i, 1);
        int[] each = {bits(0, 1, 2, 3, 4), bits(1, 3), bits(0, 1, 3), bits(1, 3)};
        for (int i = 0; i < 4; i++) due("goose " + i, four.kinds(i), each[i]);
    }

    @Holds(promise = {24}, words = "WHAT, as bits. BAD.")
    static void kindsRefused() {
        for (int i : new int[] {-1, 3, 4, Integer.MIN_VALUE, Integer.MAX_VALUE}) {
            refused("kinds(" + i + ")", Edges::rich, x -> x.kinds(i), BAD);
        }
        refused("no geese", FoxGeese::new, x -> x.kinds(0), BAD);
        due("the eaten one", rich().kinds(0), 63);
        due("the marked one", rich().kinds(1), bits(3));
        int[][][] marks = {{{1, 0, 2, 1}, {1, 1, 0, 0}}, {{1, 1, 0, 1}, {0, -1, 0, 0}}, {{1, 0, 2, 0}, {1, 0, 4, 1}},
            {{0, -1, 0, 1}}, {{0, 1, 4, 0}}, {{1, 0, 0, 0}}};
        for (int kind = 0; kind < 6; kind++) {
            FoxGeese x = twoGeese();
            for (int[] n : marks[kind]) x.mark(0, n[0], n[1], n[2], n[3]);
            due("kind " + kind + " alone", x.kinds(0), 1 << kind);
        }
    }

    private static FoxGeese marked(int[]... marks) {
        FoxGeese x = twoGeese();
        for (int[] n : marks) x.mark(1, n[0], n[1], n[2], n[3]);
        return x;
    }

    @Holds(promise = {25}, words = "ASK: 100 times dx and 2, 10 times dy and 2, and m (0 .. 9) by which these are parted most evenly likewise;")
    static void askPartsMostEvenly() {
        int[] may = new int[450];
        for (int code = 0; code < may.length; code++) {
            FoxGeese x = twoGeese();
            boolean told = x.mark(1, code / 100 - 2, code / 10 % 10 - 2, code % 10, 1) == 1;
            may[code] = told ? x.kinds(1) : -1;
        }
        for (int a = 0; a < 14; a++) {
            for (int b = 0; b < 14; b++) {
                for (int c = 0; c < 14; c++) asksAsItIs(may, a, b, c);
            }
        }
        due("all six: aside in move 2", marked().ask(1), 122);
        due("shy and aged: aside in move 4", marked(new int[] {1, 0, 2, 0}, new int[] {1, 0, 0, 1}).ask(1), 124);
        due("bold and gander: back", marked(new int[] {1, 1, 0, 1}).ask(1), 210);
    }

    private static void asksAsItIs(int[] may, int... told) {
        FoxGeese x = twoGeese();
        for (int k : told) {
            int[] n = MARKING[k / 2];
            x.mark(1, n[0], n[1], n[2], k % 2);
        }
        int fit = x.kinds(1), found = NONE, least = 7;
        for (int code = 0; code < may.length && fit != 0; code++) {
            if (may[code] < 0) continue;
            int greater = Math.max(Integer.bitCount(fit & may[code]), Integer.bitCount(fit & ~may[code]));
            if (greater < least) {
                least = greater;
                found = code;
            }
        }
        due("ask(1) among kinds " + fit, x.ask(1), found);
        due("ask(0)", x.ask(0), 122);
    }

    @Holds(promise = {25}, words = "none: no KIND.")
    static void askNone() {
        Supplier<FoxGeese> none = () -> marked(new int[] {0, 0, 0, 1});
        leaves("no kind", none, x -> x.ask(1), NONE);
        due("the other's", none.get().ask(0), 122);
        due("one kind: all are like", marked(new int[] {0, 1, 4, 0}).ask(1), 0);
    }

    @Holds(promise = {25}, words = "ASK. NONE. BAD.")
    static void askRefused() {
        for (int i : new int[] {-1, 3, 4, Integer.MIN_VALUE, Integer.MAX_VALUE}) {
            refused("ask(" + i + ")", Edges::rich, x -> x.ask(i), BAD);
        }
        refused("no geese", FoxGeese::new, x -> x.ask(0), BAD);
        due("the eaten one", rich().ask(0), 122);
    }

    /** The n-th X behind a seed, by 65536. */
    private static int drawn(int seed, int n) {
        BigInteger x = BigInteger.valueOf(seed);
        for (int k = 0; k < n; k++) {
            x = x.multiply(BigInteger.valueOf(1103515245)).add(BigInteger.valueOf(12345)).mod(BigInteger.valueOf(2147483648L));
        }
        return x.divide(BigInteger.valueOf(65536)).intValueExact();
    }

    private static final int[] SEEDS = {0, 1, 2, 3, 7, 65535, 65536, 123456, 524288, 999998, 999999};

    @Holds(promise = {26}, words = "EVENINGS by a SEED (0 .. 999999), n (0 .. 60):")
    static void eveningsRange() {
        for (int seed : new int[] {0, 999999}) {
            for (int n : new int[] {0, 60}) Due.holds("evenings(" + seed + ", " + n + ")", rich().evenings(seed, n) >= 0);
        }
        for (int seed : new int[] {-1, 1000000, Integer.MIN_VALUE, Integer.MAX_VALUE}) {
            refused("evenings(" + seed + ", 0)", Edges::rich, x -> x.evenings(seed, 0), BAD);
        }
        for (int n : new int[] {-1, 61, Integer.MIN_VALUE, Integer.MAX_VALUE}) {
            refused("evenings(0, " + n + ")", Edges::rich, x -> x.evenings(0, n), BAD);
        }
    }

    @Holds(promise = {26}, words = "X is SEED at first; n times, until the GAME is DONE,")
    static void eveningsUntilDone() {
        int inTheLast = 0;
        FoxGeese x = new FoxGeese();
        for (int seed = 0; seed < 20000 || seed < 1000000 && inTheLast == 0; seed++) {
            int home = homeAt(seed);
            if (home == 60) inTheLast++;
            if (seed >= 300 && home < 58) continue;
            due("seed " + seed + ", 60", x.evenings(seed, 60), home == 0 ? 0 : 2);
            if (home > 0) {
                due("seed " + seed + ", " + home, x.evenings(seed, home), 2);
                due("seed " + seed + ", " + (home - 1), x.evenings(seed, home - 1), 0);
            }
        }
        Due.holds("some are home by the sixtieth move", inTheLast > 0);
    }

    /** By how many moves the plain fox, from the last cell of 5 by 5 and alone, is home; 0: not by 60. */
    private static int homeAt(int seed) {
        long x = seed;
        int c = 24;
        for (int k = 1; k <= 60; k++) {
            x = (x * 1103515245 + 12345) & 0x7fffffff;
            if (k % 2 == 1) continue;
            List<Integer> cells = new ArrayList<>();
            if (c >= 5) cells.add(c - 5);
            if (c % 5 > 0) cells.add(c - 1);
            if (c % 5 < 4) cells.add(c + 1);
            if (c < 20) cells.add(c + 5);
            c = cells.get((int) (x >> 16) % cells.size());
            if (c < 5) return k;
        }
        return 0;
    }

    @Holds(promise = {26}, words = "X becomes X times 1103515245 and 12345, by 2147483648 what is left over;")
    static void eveningsDraw() {
        FoxGeese x = told("field 3 3;fox 0 4;pass;");
        FoxGeese y = told("field 3 3;fox 0 4;");
        for (int seed : SEEDS) {
            due("her turn, seed " + seed, x.evenings(seed, 1), drawn(seed, 1) % 4 == 0 ? 2 : 0);
            due("behind a pass, seed " + seed, y.evenings(seed, 2), drawn(seed, 2) % 4 == 0 ? 2 : 0);
        }
        for (int seed = 999900; seed <= 999999; seed++) {
            due("her turn, seed " + seed, x.evenings(seed, 1), drawn(seed, 1) % 4 == 0 ? 2 : 0);
            due("behind a pass, seed " + seed, y.evenings(seed, 2), drawn(seed, 2) % 4 == 0 ? 2 : 0);
        }
    }

    @Holds(promise = {26}, words = "of the MOVES that can be done (by 100 i and the CELL, rising), the one X by 65536 (cut), by how many there are left over, is done;")
    static void eveningsOrder() {
        // of 1, 3, 103, 105 only the last catches her
        FoxGeese last = told("field 3 3;thicket 7;goose 0 0;goose 0 4;");
        // of 3, 5, 101, 103 only the second does
        FoxGeese second = told("field 3 3;thicket 7;goose 0 4;goose 0 0;");
        // of 0, 4, 6 only the first is home
        FoxGeese three = told("field 3 3;fox 0 3;pass;");
        for (int seed = 0; seed < 200; seed++) {
            due("the last of four", last.evenings(seed, 1), drawn(seed, 1) % 4 == 3 ? 1 : 0);
            due("the second of four", second.evenings(seed, 1), drawn(seed, 1) % 4 == 1 ? 1 : 0);
            due("the first of three", three.evenings(seed, 1), drawn(seed, 1) % 3 == 0 ? 2 : 0);
        }
    }

    @Holds(promise = {26}, words = "PASSING, if there is none: how it is behind them: 0 not DONE, 1 CAUGHT, 2 HOME.")
    static void eveningsHowItIs() {
        for (int seed : SEEDS) {
            due("not done", new FoxGeese().evenings(seed, 0), 0);
            due("a pass", new FoxGeese().evenings(seed, 1), 0);
            due("caught behind a pass", told("field 3 3;thicket 5;thicket 7;").evenings(seed, 1), 1);
            due("not ahead of it", told("field 3 3;thicket 5;thicket 7;").evenings(seed, 0), 0);
            due("home behind a pass", told("field 3 3;fox 0 4;thicket 3;thicket 5;thicket 7;").evenings(seed, 2), 2);
            for (int n : new int[] {0, 1, 60}) {
                due("home at first", told("field 3 3;fox 0 0;").evenings(seed, n), 2);
                due("caught at first", told("field 3 3;thicket 5;thicket 7;pass;").evenings(seed, n), 1);
            }
        }
    }

    @Holds(promise = {26}, words = "EVENINGS. BAD.")
    static void eveningsRefused() {
        refused("both outside", Edges::rich, x -> x.evenings(-1, 61), BAD);
        refused("home, seed outside", () -> told("field 3 3;fox 0 0;"), x -> x.evenings(1000000, 0), BAD);
        refused("home, n outside", () -> told("field 3 3;fox 0 0;"), x -> x.evenings(0, 61), BAD);
    }

    public static void main(String[] args) throws ReflectiveOperationException {
        run(EdgesWhoTest.class);
    }
}
