import java.util.function.IntPredicate;

/**
 * The edges that the document names for steps: what each kind may do, drawn for dy -2 .. 2 (a row each) and dx -2 .. 2,
 * asked by notes and marks (promises 22 and 24) and on fields of every size (promise 14).
 */
public final class EdgesStepsTest extends Edges {
    private static final String[] NOWHERE = {".....", ".....", ".....", ".....", "....."};
    private static final String[] CROSS = {".....", "..x..", ".x.x.", "..x..", "....."};
    private static final String[] CROSS_AND_SLANTS = {".....", ".xxx.", ".x.x.", ".xxx.", "....."};
    private static final String[] CROSS_AND_LEAPS = {"..x..", "..x..", "xx.xx", "..x..", "..x.."};
    private static final String[] CROSS_AND_ALL_LEAPS = {"x.x.x", "..x..", "xx.xx", "..x..", "x.x.x"};
    private static final String[] ASIDE = {".....", ".....", ".x.x.", ".....", "....."};
    private static final String[] ON = {".....", ".....", ".....", "..x..", "....."};
    private static final String[] ON_AND_ASIDE = {".....", ".....", ".x.x.", "..x..", "....."};
    private static final String[] ON_SLANTS_ASIDE = {".....", ".....", ".x.x.", ".xxx.", "....."};
    private static final String[] ON_SLANTS_ASIDE_BACK = {".....", "..x..", ".x.x.", ".xxx.", "....."};

    private static final IntPredicate EVER = m -> true;
    private static final IntPredicate EVEN = m -> m % 2 == 0;
    private static final IntPredicate ODD = m -> m % 2 == 1;

    private static boolean drawn(String[] drawing, int dx, int dy) {
        return drawing[dy + 2].charAt(dx + 2) == 'x';
    }

    /** Of the steps by -2 .. 2 a fox of this kind may do just those drawn in these of the moves 0 .. 99. */
    private static void foxMay(int kind, IntPredicate inMove, int over, String[] drawing) {
        for (int m = 0; m <= 99; m++) {
            if (!inMove.test(m)) continue;
            FoxGeese x = new FoxGeese();
            for (int dy = -2; dy <= 2; dy++) {
                for (int dx = -2; dx <= 2; dx++) {
                    x.note(dx, dy, m, over, 1);
                    int may = drawn(drawing, dx, dy) ? 1 : 0;
                    due("note(" + dx + ", " + dy + ", " + m + ", " + over + ", 1), is()", x.is() >> kind & 1, may);
                    x.forget(0);
                }
            }
        }
    }

    private static void gooseMay(int kind, IntPredicate inMove, String[] drawing) {
        for (int m = 0; m <= 99; m++) {
            if (!inMove.test(m)) continue;
            FoxGeese x = told("field 3 3;goose 0 0;");
            for (int dy = -2; dy <= 2; dy++) {
                for (int dx = -2; dx <= 2; dx++) {
                    x.mark(0, dx, dy, m, 1);
                    int may = drawn(drawing, dx, dy) ? 1 : 0;
                    due("mark(0, " + dx + ", " + dy + ", " + m + ", 1), kinds(0)", x.kinds(0) >> kind & 1, may);
                    x.forget(1);
                }
            }
        }
    }

    /** The cells drawn around a cell that lie in the field: nothing wraps around its sides. */
    private static int clipped(String[] drawing, int w, int h, int c) {
        int cells = 0;
        for (int y = 0; y < h; y++) {
            for (int x = 0; x < w; x++) {
                int dx = x - c % w, dy = y - c / w;
                if (Math.abs(dx) <= 2 && Math.abs(dy) <= 2 && drawn(drawing, dx, dy)) cells |= 1 << y * w + x;
            }
        }
        return cells;
    }

    /** A field of this size in move m, nobody but the fox on it. */
    private static FoxGeese inMove(int w, int h, int m) {
        FoxGeese x = sized(w, h);
        for (int k = 0; k < m; k++) {
            if (k % 2 == 0) x.passes();
            else x.goes(k % 4 == 1 ? w * h - 2 : w * h - 1);
        }
        due("moves", x.count(5), m);
        return x;
    }

    /** On each cell of each size the fox can go to just those drawn, over nobody. */
    private static void foxCan(int kind, IntPredicate inMove, String[] drawing) {
        for (int w = 3; w <= 5; w++) {
            for (int h = 3; h <= 5; h++) {
                for (int m = 0; m < 4; m++) {
                    if (!inMove.test(m)) continue;
                    FoxGeese x = inMove(w, h, m);
                    for (int c = 0; c < w * h; c++) {
                        x.fox(kind, c);
                        due("in " + w + " by " + h + " on " + c + " in move " + m, x.can(4), clipped(drawing, w, h, c));
                    }
                }
            }
        }
    }

    /** On each cell of each size a goose can go to just those drawn, but not to the fox. */
    private static void gooseCan(int kind, IntPredicate inMove, String[] drawing) {
        for (int w = 3; w <= 5; w++) {
            for (int h = 3; h <= 5; h++) {
                for (int m = 0; m < 12; m++) {
                    if (inMove.test(m)) gooseCanIn(kind, w, h, m, drawing);
                }
            }
        }
    }

    private static void gooseCanIn(int kind, int w, int h, int m, String[] drawing) {
        FoxGeese x = inMove(w, h, m);
        x.image(0);
        for (int c = 0; c < w * h; c++) {
            int fox = c == 0 ? w * h - 1 : 0;
            x.from(0);
            x.fox(0, fox);
            x.goose(kind, c);
            String what = "in " + w + " by " + h + " on " + c + " in move " + m;
            due(what, x.can(0), clipped(drawing, w, h, c) & ~(1 << fox));
        }
    }

    @Holds(promise = {14, 22}, words = "0 PLAIN: dx and dy, without signs, are 1 together.")
    static void foxPlain() {
        foxMay(0, EVER, 0, CROSS);
        foxMay(0, EVER, 1, CROSS);
        foxCan(0, EVER, CROSS);
    }

    @Holds(promise = {14, 22}, words = "1 SLY (under PLAIN): as PLAIN, also dx and dy, without signs, 1 each.")
    static void foxSly() {
        foxMay(1, EVER, 0, CROSS_AND_SLANTS);
        foxMay(1, EVER, 1, CROSS_AND_SLANTS);
        foxCan(1, EVER, CROSS_AND_SLANTS);
    }

    @Holds(promise = {14, 22},
        words = "2 LEAPER (under PLAIN): as PLAIN, also OVER a GOOSE by one of them 2, the other 0, without signs.")
    static void foxLeaper() {
        foxMay(2, EVER, 0, CROSS);
        foxMay(2, EVER, 1, CROSS_AND_LEAPS);
        foxCan(2, EVER, CROSS);
        due("over geese beside her", amid(2, 7, 11, 13, 17).can(4), bits(2, 10, 14, 22));
        due("over geese aslant", amid(2, 6, 8, 16, 18).can(4), bits(7, 11, 13, 17));
    }

    @Holds(promise = {14, 22}, words = "3 LAME (under PLAIN): as PLAIN, but only dy 0, if m is an odd number.")
    static void foxLame() {
        foxMay(3, EVEN, 0, CROSS);
        foxMay(3, ODD, 0, ASIDE);
        foxMay(3, ODD, 1, ASIDE);
        foxCan(3, EVEN, CROSS);
        foxCan(3, ODD, ASIDE);
    }

    @Holds(promise = {14, 22}, words = "4 HUNGRY (under LEAPER): as LEAPER, also OVER a GOOSE by both of them 2, without signs.")
    static void foxHungry() {
        foxMay(4, EVER, 0, CROSS);
        foxMay(4, EVER, 1, CROSS_AND_ALL_LEAPS);
        foxCan(4, EVER, CROSS);
        due("over geese beside her", amid(4, 7, 11, 13, 17).can(4), bits(2, 10, 14, 22));
        due("over geese aslant", amid(4, 6, 8, 16, 18).can(4), bits(7, 11, 13, 17, 0, 4, 20, 24));
    }

    @Holds(promise = {14, 22}, words = "5 OLD (under SLY): as SLY, but as PLAIN, if m is an odd number.")
    static void foxOld() {
        foxMay(5, EVEN, 0, CROSS_AND_SLANTS);
        foxMay(5, ODD, 0, CROSS);
        foxMay(5, ODD, 1, CROSS);
        foxCan(5, EVEN, CROSS_AND_SLANTS);
        foxCan(5, ODD, CROSS);
    }

    @Holds(promise = {4, 5, 8}, words = "KINDS of FOXES, each under the one told, say which STEPS she may do in MOVE m:")
    static void sixKindsOfFoxes() {
        for (int kind = 0; kind <= 5; kind++) due("a kind", new FoxGeese().fox(kind, 0), 0);
        due("one less", new FoxGeese().fox(-1, 0), BAD);
        due("one more", new FoxGeese().fox(6, 0), BAD);
        due("told: the last", readOf(new FoxGeese(), "field 3 3;fox 5 0;"), 2);
        due("told: one more", readOf(new FoxGeese(), "field 3 3;fox 6 0;"), -24);
        due("all of them", new FoxGeese().is(), 63);
    }

    @Holds(promise = {14, 24}, words = "0 PLAIN: dx 0, dy 1, or dy 0, dx 1 or -1.")
    static void goosePlain() {
        gooseMay(0, EVER, ON_AND_ASIDE);
        gooseCan(0, EVER, ON_AND_ASIDE);
    }

    @Holds(promise = {14, 24}, words = "1 BOLD (under PLAIN): as PLAIN, also dy 1, dx 1 or -1.")
    static void gooseBold() {
        gooseMay(1, EVER, ON_SLANTS_ASIDE);
        gooseCan(1, EVER, ON_SLANTS_ASIDE);
    }

    @Holds(promise = {14, 24}, words = "2 SHY (under PLAIN): as PLAIN, but only dy 1, if m by 4 leaves 2 or 3 over.")
    static void gooseShy() {
        gooseMay(2, m -> m % 4 < 2, ON_AND_ASIDE);
        gooseMay(2, m -> m % 4 >= 2, ON);
        gooseCan(2, m -> m % 4 < 2, ON_AND_ASIDE);
        gooseCan(2, m -> m % 4 >= 2, ON);
    }

    @Holds(promise = {14, 24}, words = "3 GANDER (under BOLD): as BOLD, also dx 0, dy -1.")
    static void gooseGander() {
        gooseMay(3, EVER, ON_SLANTS_ASIDE_BACK);
        gooseCan(3, EVER, ON_SLANTS_ASIDE_BACK);
    }

    @Holds(promise = {14, 24}, words = "4 AGED (under SHY): as SHY, but none, if m by 6 leaves 4 or 5 over.")
    static void gooseAged() {
        gooseMay(4, m -> m % 6 < 4 && m % 4 < 2, ON_AND_ASIDE);
        gooseMay(4, m -> m % 6 < 4 && m % 4 >= 2, ON);
        gooseMay(4, m -> m % 6 >= 4, NOWHERE);
        gooseCan(4, m -> m % 6 < 4 && m % 4 < 2, ON_AND_ASIDE);
        gooseCan(4, m -> m % 6 < 4 && m % 4 >= 2, ON);
        gooseCan(4, m -> m % 6 >= 4, NOWHERE);
    }

    @Holds(promise = {14, 24}, words = "5 GOSLING (under PLAIN): as PLAIN, but only dy 1.")
    static void gooseGosling() {
        gooseMay(5, EVER, ON);
        gooseCan(5, EVER, ON);
    }

    @Holds(promise = {5, 10, 14}, words = "KINDS of GEESE, each under the one told, say which STEPS one may do in MOVE m (never OVER one):")
    static void geeseNeverGoOverOne() {
        for (int kind = 0; kind <= 5; kind++) {
            FoxGeese x = told("field 5 5;fox 0 24;goose " + kind + " 12;goose 0 17;goose 0 13;goose 0 11;");
            due("kind " + kind + " over on", x.moves(0, 22), NO);
            due("kind " + kind + " over aside", x.moves(0, 14), NO);
            due("kind " + kind + " over aside", x.moves(0, 10), NO);
        }
        due("a kind less", new FoxGeese().goose(-1, 0), BAD);
        due("a kind more", new FoxGeese().goose(6, 0), BAD);
        due("the last kind", new FoxGeese().goose(5, 0), 0);
    }

    /** A fox of a kind on cell 12 of 5 by 5, geese on these cells, her turn in move 1. */
    private static FoxGeese amid(int kind, int... cells) {
        FoxGeese x = afterMoves(1);
        x.fox(kind, 12);
        for (int c : cells) x.goose(0, c);
        return x;
    }

    @Holds(promise = {9, 14}, words = "OVER a GOOSE (1), if one not EATEN is on the CELL half way")
    static void overOnlyWhoIsNotEaten() {
        for (int kind : new int[] {2, 4}) {
            FoxGeese x = told("field 5 5;fox " + kind + " 17;goose 5 7;goose 3 0;move 0 12;go 7;");
            due("cell 12 lies empty half way", x.can(4), bits(2, 6, 8, 12));
            x.moves(1, 5);
            due("she can not leap back over it", x.goes(17), NO);
            due("nor over cells that ever were empty", x.goes(9), NO);
        }
        due("half way is a thicket", told("field 5 5;fox 4 12;thicket 7;thicket 6;").can(4), bits(11, 13, 17));
    }

    @Holds(promise = {9}, words = "A STEP is by dx, dy (from x, y to x and dx, y and dy), OVER a GOOSE (1)")
    static void leapsEveryWay() {
        int[] near = {7, 11, 13, 17, 6, 8, 16, 18}, far = {2, 10, 14, 22, 0, 4, 20, 24};
        for (int k = 0; k < near.length; k++) {
            for (int kind = 0; kind < 6; kind++) {
                boolean leaps = kind == 4 || kind == 2 && k < 4;
                FoxGeese x = amid(kind, near[k]);
                due("kind " + kind + " over " + near[k] + " to " + far[k], x.goes(far[k]), leaps ? 1 : NO);
                due("eaten", x.count(3), leaps ? 1 : 0);
            }
            FoxGeese x = amid(4, near[k]);
            x.thicket(far[k]);
            due("not into a thicket behind " + near[k], x.goes(far[k]), NO);
            due("not onto a goose behind " + near[k], amid(4, near[k], far[k]).goes(far[k]), NO);
        }
    }

    @Holds(promise = {19, 22}, words = "(dx, dy even numbers, not both 0), or not (0).")
    static void nobodyStepsByNothing() {
        for (int over = 0; over < 2; over++) {
            for (int m = 0; m < 2; m++) {
                FoxGeese x = new FoxGeese();
                x.note(0, 0, m, over, 1);
                due("note(0, 0, " + m + ", " + over + ", 1)", x.is(), 0);
            }
        }
        for (int kind = 0; kind < 6; kind++) {
            FoxGeese x = afterMoves(1);
            x.fox(kind, 12);
            due("to where she is", x.goes(12), NO);
            FoxGeese y = new FoxGeese();
            y.goose(kind, 12);
            due("to where it is", y.moves(0, 12), NO);
        }
    }

    @Holds(promise = {9, 10}, words = "Who STEPS goes to a CELL of THE FIELD with nobody on it, no THICKET;")
    static void nothingWrapsAround() {
        for (int kind = 0; kind < 6; kind++) {
            for (int w = 3; w <= 5; w++) {
                String size = "field " + w + " 4;fox " + kind + " ";
                int right = 2 * w - 1, left = 2 * w;
                due("the fox over the right side", told(size + right + ";pass;").goes(right + 1), NO);
                due("the fox over the left side", told(size + left + ";pass;").goes(left - 1), NO);
                due("aslant over the left side", told(size + left + ";thicket 0;pass;").goes(left - w - 1), NO);
                due("aslant over the right side", told(size + right + ";pass;").goes(right + w + 1), NO);
                size = "field " + w + " 4;goose " + kind + " ";
                due("a goose over the right side", told(size + right + ";").moves(0, right + 1), NO);
                due("a goose over the left side", told(size + left + ";").moves(0, left - 1), NO);
                due("aslant over the right side", told(size + (w - 1) + ";").moves(0, 2 * w), NO);
                due("aslant over the left side", told(size + w + ";").moves(0, 2 * w - 1), NO);
            }
        }
    }

    @Holds(promise = {9, 14}, words = "Who STEPS goes to a CELL of THE FIELD with nobody on it, no THICKET;")
    static void noLeapWrapsAround() {
        due("over the left side", leapers("fox 4 11;goose 0 10;").can(4), bits(6, 12, 16));
        due("over the right side", leapers("fox 4 13;goose 0 14;").can(4), bits(8, 12, 18));
        due("over the far side", leapers("fox 4 17;goose 0 22;").can(4), bits(12, 16, 18));
        due("over the near side", leapers("fox 4 7;goose 0 2;").can(4), bits(6, 8, 12));
        due("aslant over a side", leapers("fox 4 11;goose 0 5;goose 0 15;").can(4), bits(6, 10, 12, 16));
        due("from the right side to the next row", leapers("fox 4 9;goose 0 10;").can(4), bits(4, 8, 14));
        due("from the left side to the row before", leapers("fox 4 15;goose 0 14;").can(4), bits(10, 16, 20));
        due("in the last corner", leapers("fox 4 24;goose 0 23;goose 0 19;goose 0 18;").can(4), bits(22, 14, 12));
    }

    private static FoxGeese leapers(String items) {
        return told("field 5 5;" + items);
    }

    @Holds(promise = {9, 13, 31}, words = "by a STEP of the FOX OVER a GOOSE that one is EATEN (on no CELL then).")
    static void whoIsLeaptOverIsEaten() {
        FoxGeese x = amid(2, 11, 13, 7);
        due("she leaps", x.goes(14), 1);
        due("that one is on no cell", x.of(1, 1), NONE);
        due("the others are", x.of(0, 1), 11);
        due("the others are", x.of(2, 1), 7);
        due("how many are eaten", x.count(3), 1);
        due("how many geese there are", x.count(2), 3);
        due("its cell is free", x.moves(2, 12), 7);
        FoxGeese y = amid(2, 11, 13, 7);
        due("by a step over nobody", y.goes(17), 0);
        due("none is eaten", y.count(3), 0);
    }

    @Holds(promise = {9, 12, 31}, words = "by a STEP of the FOX OVER a GOOSE that one is EATEN")
    static void allOfThemMayBeEaten() {
        FoxGeese x = told("field 5 5;thicket 21;fox 4 24;goose 5 18;goose 5 11;goose 5 16;goose 5 23;");
        int eaten = 0;
        for (int c : new int[] {12, 10, 22, 24}) {
            due("none can step: they pass", x.passes(), 2 * eaten + 1);
            due("she leaps to " + c, x.goes(c), 1);
            eaten++;
            due("so many are eaten", x.count(3), eaten);
            due("the one leapt over", x.of(eaten - 1, 1), NONE);
        }
        due("of four", x.count(2), 4);
        due("then they can but pass", x.passes(), 9);
        x.undo();
        for (int left = 3; left > 0; left--) {
            due("her leap is undone", x.undo(), 2 * left + 1);
            due("so many are eaten", x.count(3), left);
            due("their pass is undone", x.undo(), 2 * left);
        }
    }

    public static void main(String[] args) throws ReflectiveOperationException {
        run(EdgesStepsTest.class);
    }
}
