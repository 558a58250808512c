import java.util.function.ToLongFunction;

/** The edges that the document names for what can be done, what is best, and chances: promises 14 to 18. */
public final class EdgesBestTest extends Edges {
    private static final String CAUGHT = "field 3 3;thicket 5;thicket 7;pass;";

    /** Her turn in move 9999, a fox of this kind on cell 7 of 3 by 3, a gosling on 6; see EdgesMovesTest on 9999. */
    private static FoxGeese inMove9999(int kind, int c) {
        FoxGeese x = told("field 3 3;goose 5 6;");
        for (int m = 0; m < 9999; m++) {
            if (m % 2 == 0) x.passes();
            else x.goes(m % 4 == 1 ? 7 : 8);
        }
        due("moves", x.count(5), 9999);
        x.fox(kind, c);
        return x;
    }

    private static void luckIs(String what, FoxGeese x, int n, long above, long below) {
        due(what + ": luck(" + n + ")", x.luck(n), 1);
        due(what + ": above", x.part(0), above);
        due(what + ": below", x.part(1), below);
    }

    @Holds(promise = {14, 15, 16, 17, 22, 23, 24, 25, 26, 31}, words = "(Nothing is changed by these.)")
    static void nothingIsChanged() {
        FoxGeese probe = rich();
        for (int n = 0; n <= 4; n++) {
            int k = n;
            if (n != 0 && n != 3) same("can(" + n + ")", x -> x.can(k), probe.can(n));
            same("worth(" + n + ")", x -> x.worth(k), probe.worth(n));
            if (n > 0) same("best(" + n + ")", x -> x.best(k), probe.best(n));
            if (n < 3) same("kinds(" + n + ")", x -> x.kinds(k), probe.kinds(n));
            if (n < 3) same("ask(" + n + ")", x -> x.ask(k), probe.ask(n));
        }
        same("few()", FoxGeese::few, probe.few());
        same("is()", FoxGeese::is, probe.is());
        same("look()", FoxGeese::look, probe.look());
        same("evenings(5, 60)", x -> x.evenings(5, 60), probe.evenings(5, 60));
        same("count(6)", x -> x.count(6), probe.count(6));
        same("digest()", FoxGeese::digest, probe.digest());
    }

    private static void same(String what, ToLongFunction<FoxGeese> call, long answer) {
        leaves(what, Edges::rich, call, answer);
    }

    @Holds(promise = {18}, words = "(Nothing is changed by these.)")
    static void luckChangesTheFractionAlone() {
        for (int n = 0; n <= 4; n++) {
            FoxGeese x = rich(), y = rich();
            x.luck(n);
            y.luck((n + 1) % 5);
            x.luck(3);
            y.luck(3);
            Due.holds("all but the fraction is as it was", tale(x).equals(tale(rich())) && tale(y).equals(tale(rich())));
        }
    }

    @Holds(promise = {14}, words = "CAN: CELLS (bits) to which one of them (a GOOSE 0 .. 3, or 4 the FOX) could STEP,")
    static void canOfEach() {
        FoxGeese x = told("field 5 5;goose 0 0;goose 5 2;goose 3 6;goose 1 4;fox 0 24;");
        due("goose 0", x.can(0), bits(1, 5));
        due("goose 1", x.can(1), bits(7));
        due("goose 2", x.can(2), bits(1, 5, 7, 10, 11, 12));
        due("goose 3", x.can(3), bits(3, 8, 9));
        due("the fox", x.can(4), bits(19, 23));
        due("the first cell of all", told("field 5 5;goose 0 1;").can(0), bits(0, 2, 6));
        due("the last cell of all", told("field 5 5;fox 0 23;").can(4), bits(18, 22, 24));
        due("none", told("field 5 5;goose 5 22;").can(0), 0);
    }

    @Holds(promise = {14}, words = "were it its TURN now, the GAME DONE or not.")
    static void canWhoeversTurn() {
        due("a goose in her turn", told("field 3 3;goose 0 0;move 0 1;").can(0), bits(0, 2, 4));
        due("the fox in theirs", told("field 3 3;").can(4), bits(5, 7));
        due("the fox being home", told("field 3 3;fox 0 1;").can(4), bits(0, 2, 4));
        due("a goose, she being home", told("field 3 3;goose 0 0;fox 0 2;").can(0), bits(1, 3));
        due("a goose, she being caught", told("field 3 3;goose 5 7;goose 0 4;move 1 5;").can(1), bits(4));
        due("the fox being caught", told(CAUGHT).can(4), 0);
    }

    @Holds(promise = {31}, words = "OPEN: how many these are for the FOX.")
    static void openFromNoneToEight() {
        due("none", told(CAUGHT).count(6), 0);
        due("one", told("field 3 3;thicket 5;").count(6), 1);
        due("eight", told("field 3 3;fox 1 4;").count(6), 8);
        due("eight by leaps", told("field 5 5;fox 4 12;goose 0 6;goose 0 8;goose 0 16;goose 0 18;").count(6), 8);
        due("home, too", told("field 3 3;fox 0 0;").count(6), 2);
    }

    @Holds(promise = {14}, words = "CAN, as bits.")
    static void canAsBits() {
        due("cell 0", told("field 3 3;fox 0 3;thicket 4;thicket 6;").can(4), 1);
        due("cell 24", told("field 5 5;fox 0 23;thicket 22;thicket 18;").can(4), 16777216);
    }

    @Holds(promise = {14}, words = "BAD (EATEN, too).")
    static void canOutside() {
        for (int i : new int[] {-1, 3, 5, Integer.MIN_VALUE, Integer.MAX_VALUE}) {
            refused("can(" + i + ")", Edges::rich, x -> x.can(i), BAD);
        }
        refused("the eaten one", Edges::rich, x -> x.can(0), BAD);
        refused("no geese", FoxGeese::new, x -> x.can(0), BAD);
        due("the last goose", told("field 3 3;goose 0 0;goose 5 1;").can(1), bits(4));
        FoxGeese undone = told("field 5 5;fox 2 17;goose 5 7;move 0 12;");
        undone.goes(7);
        due("eaten", undone.can(0), BAD);
        undone.undo();
        due("undone", undone.can(0), 0);
    }

    @Holds(promise = {15}, words = "WORTH behind n (0 .. 4) MOVES:")
    static void worthFromNoneToFour() {
        // by pass, up, pass, up she is home in the fourth move
        FoxGeese x = told("field 5 5;fox 0 12;");
        int[] worths = {4, 4, 4, 4, 99};
        for (int n = 0; n <= 4; n++) due("worth(" + n + ")", x.worth(n), worths[n]);
        refused("worth(-1)", Edges::rich, f -> f.worth(-1), BAD);
        refused("worth(5)", Edges::rich, f -> f.worth(5), BAD);
        due("by up, pass, up", told("field 5 5;fox 0 12;pass;").worth(3), 99);
        due("not by up, pass", told("field 5 5;fox 0 12;pass;").worth(2), 4);
    }

    @Holds(promise = {15}, words = "of a GAME that is DONE 99, if she is HOME, 0, if she is CAUGHT;")
    static void worthOfAGameThatIsDone() {
        for (int n = 0; n <= 4; n++) {
            due("home", told("field 3 3;fox 0 0;").worth(n), 99);
            due("home in her turn", told("field 3 3;pass;fox 0 2;").worth(n), 99);
            due("home, though she can do no step", told("field 3 3;pass;fox 0 0;thicket 1;thicket 3;").worth(n), 99);
            due("caught", told(CAUGHT).worth(n), 0);
            due("home by her move", told("field 3 3;fox 0 4;pass;").worth(n), n == 0 ? 4 : 99);
            due("caught by their move", told("field 3 3;thicket 7;goose 0 4;").worth(n), n == 0 ? 1 : 0);
        }
    }

    @Holds(promise = {15}, words = "else, if none are to come, how many CELLS are OPEN to her;")
    static void worthIfNoneAreToCome() {
        due("at first", new FoxGeese().worth(0), 2);
        due("none open, but not her turn", told("field 3 3;thicket 5;thicket 7;").worth(0), 0);
        due("eight", told("field 3 3;fox 1 4;").worth(0), 8);
        due("the lame one in an even move", told("field 3 3;fox 3 4;").worth(0), 4);
        due("the lame one in an odd move", told("field 3 3;fox 3 4;pass;").worth(0), 2);
        due("behind a pass", told("field 3 3;fox 3 4;").worth(1), 2);
    }

    @Holds(promise = {15}, words = "else the greatest WORTH (FOX's TURN), the least (GEESE's;")
    static void worthGreatestAndLeast() {
        due("the greatest of 4, 2, 2", told("field 3 3;fox 0 7;pass;").worth(1), 4);
        due("the least of 2, 1, 1", told("field 3 3;goose 0 4;").worth(1), 1);
        // to 7 leaves 2 by either of the goose's steps, to 5 leaves 2 by its step to 4, 3 by that to 6
        due("the greatest of the least", told("field 3 3;goose 0 0;move 0 3;").worth(2), 2);
        due("caught rather than not", told("field 3 3;thicket 7;goose 0 4;goose 0 0;").worth(1), 0);
    }

    @Holds(promise = {15}, words = "by PASSING, if they can do nothing else) behind the MOVES that can be done, with 1 MOVE fewer to come.")
    static void worthByPassing() {
        due("a pass is a move", told("field 3 3;fox 0 4;").worth(1), 4);
        due("then she goes home", told("field 3 3;fox 0 4;").worth(2), 99);
        due("geese at the far side", told("field 3 3;fox 0 4;goose 5 6;goose 5 8;").worth(2), 99);
        due("no pass for who can step", told("field 3 3;fox 0 4;thicket 3;thicket 5;thicket 7;goose 5 6;goose 0 0;").worth(2), 0);
        due("caught behind a pass", told("field 3 3;thicket 5;thicket 7;").worth(1), 0);
        due("all being eaten", told("field 5 5;fox 2 17;goose 5 7;move 0 12;go 7;").worth(2), 99);
    }

    @Holds(promise = {15}, words = "WORTH. BAD.")
    static void worthRefused() {
        for (int n : FAR) refused("worth(" + n + ")", Edges::rich, x -> x.worth(n), BAD);
        refused("worth(-1), home", () -> told("field 3 3;fox 0 0;"), x -> x.worth(-1), BAD);
        refused("worth(5), home", () -> told("field 3 3;fox 0 0;"), x -> x.worth(5), BAD);
    }

    @Holds(promise = {16}, words = "BEST for n (1 .. 4): the MOVE by which that is so:")
    static void bestFromOneToFour() {
        FoxGeese x = told("field 5 5;fox 0 12;pass;");
        for (int n = 1; n <= 4; n++) due("best(" + n + ")", x.best(n), 407);
        for (int n : new int[] {-1, 0, 5}) refused("best(" + n + ")", Edges::rich, f -> f.best(n), BAD);
        due("who catches", told("field 3 3;thicket 7;goose 0 0;goose 0 4;").best(1), 105);
        // one move ahead 13 leaves as many open as 19 does, 9 fewer; but 9 leads home by the third move
        FoxGeese far = told("field 5 5;thicket 5;thicket 6;thicket 7;thicket 8;fox 0 14;pass;");
        due("one ahead", far.best(1), 413);
        due("three ahead", far.best(3), 409);
    }

    @Holds(promise = {16}, words = "100 i and the CELL (i a GOOSE, 4 the FOX),")
    static void bestTellsWhoAndWhere() {
        due("the fox", told("field 3 3;fox 0 4;pass;").best(1), 401);
        due("goose 0", told("field 3 3;goose 5 1;").best(1), 4);
        due("goose 3", told("field 3 3;fox 0 5;goose 5 6;goose 5 7;goose 5 3;goose 5 1;").best(1), 304);
        due("goose 0 to cell 24", told("field 5 5;fox 0 10;goose 5 19;").best(1), 24);
        due("the fox to cell 24", told("field 5 5;fox 0 23;thicket 22;thicket 18;pass;").best(1), 424);
    }

    @Holds(promise = {16}, words = "of like ones the least;")
    static void bestOfLikeOnesTheLeast() {
        due("all are like", told("field 5 5;goose 0 0;goose 0 4;").best(1), 1);
        due("goose 0, though 1's cells are less", told("field 5 5;goose 0 8;goose 0 0;").best(1), 7);
        due("three ways home", told("field 3 3;fox 1 4;pass;").best(1), 400);
        due("two ways home", told("field 3 3;fox 1 4;thicket 0;pass;").best(1), 401);
        due("two who catch", told("field 3 3;thicket 7;goose 0 0;goose 0 4;goose 0 2;").best(1), 105);
        // whatever she does a goose steps behind her, and she is caught; whatever they do she is home
        due("she is lost by all", told("field 3 3;thicket 2;thicket 4;goose 0 6;move 0 7;").best(2), 405);
        due("they have lost by all", told("field 3 3;fox 1 4;goose 0 0;").best(2), 1);
        due("two who catch, four ahead", told("field 3 3;thicket 7;goose 0 0;goose 0 4;goose 0 2;").best(4), 105);
    }

    @Holds(promise = {16}, words = "none: the GAME is DONE, the GEESE can but PASS.")
    static void bestIsNone() {
        for (int n = 1; n <= 4; n++) {
            int k = n;
            for (String done : new String[] {"field 3 3;fox 0 0;", "field 3 3;pass;fox 0 2;", "field 3 3;goose 0 3;fox 0 0;",
                    CAUGHT, "field 3 3;", "field 3 3;goose 5 6;", "field 3 3;goose 5 7;goose 0 4;move 1 5;",
                    "field 5 5;fox 2 17;goose 5 7;move 0 12;go 7;"}) {
                leaves(done + " best(" + n + ")", () -> told(done), x -> x.best(k), NONE);
            }
            Due.holds("one can step", told("field 3 3;goose 5 6;goose 5 0;").best(n) == 103);
        }
        FoxGeese x = told("field 3 3;fox 0 4;pass;");
        x.best(2);
        x.fox(0, 0);
        due("nothing is left of an earlier one", x.best(2), NONE);
    }

    @Holds(promise = {16}, words = "BEST. NONE. BAD.")
    static void bestRefused() {
        for (int n : FAR) refused("best(" + n + ")", Edges::rich, x -> x.best(n), BAD);
        refused("best(0), home", () -> told("field 3 3;fox 0 0;"), x -> x.best(0), BAD);
        refused("best(5), but passing", FoxGeese::new, x -> x.best(5), BAD);
    }

    @Holds(promise = {17}, words = "FEW: the fewest STEPS, not OVER any GOOSE, by which she would be HOME,")
    static void fewNotOverGeese() {
        for (int kind : new int[] {2, 4}) {
            due("shut in but for a leap", told("field 3 3;fox " + kind + " 7;goose 5 4;thicket 6;thicket 8;").few(), NONE);
            due("around", told("field 3 3;fox " + kind + " 7;goose 5 4;").few(), 3);
            due("a leap would be fewer", told("field 3 3;fox " + kind + " 7;goose 5 4;thicket 6;").few(), 3);
        }
        for (int h = 3; h <= 5; h++) due("straight on", sized(4, h).few(), h - 1);
        due("aslant", told("field 3 3;fox 1 8;thicket 5;thicket 7;").few(), 2);
    }

    @Holds(promise = {17}, words = "all else standing still, it being always her TURN, each a MOVE")
    static void fewAllElseStandingStill() {
        due("in their turn", told("field 5 5;").few(), 4);
        due("in hers", told("field 5 5;pass;").few(), 4);
        due("caught, but for her turn", told("field 3 3;goose 5 7;goose 0 4;move 1 5;").few(), NONE);
        due("geese that could step stand still", told("field 3 3;fox 0 7;goose 3 4;").few(), 3);
        due("the lame one from move 0", told("field 5 5;fox 3 22;").few(), 7);
        due("the lame one from move 1", told("field 5 5;fox 3 22;pass;").few(), 8);
        due("the old one: aslant in even moves", told("field 3 4;thicket 7;fox 5 10;").few(), 3);
    }

    @Holds(promise = {17}, words = "(0 .. 50; by GEESE, THICKETS as they are); none.")
    static void fewFromNought() {
        for (int c = 0; c < 5; c++) {
            FoxGeese x = new FoxGeese();
            x.fox(0, c);
            due("home on " + c, x.few(), 0);
        }
        due("home, though shut in", told("field 3 3;fox 0 0;thicket 1;thicket 3;").few(), 0);
        due("one", told("field 3 3;fox 0 4;").few(), 1);
        due("a far way", told("field 5 5;thicket 0;thicket 1;thicket 2;thicket 3;thicket 12;thicket 13;thicket 14;"
            + "thicket 16;thicket 23;").few(), 14);
        due("the old one's far way", told("field 5 5;thicket 0;thicket 1;thicket 2;thicket 4;thicket 7;thicket 8;"
            + "thicket 12;thicket 13;thicket 16;thicket 17;thicket 18;fox 5 9;pass;").few(), 22);
        due("none: shut in", told("field 3 3;thicket 5;thicket 7;").few(), NONE);
        due("none: the near side is full", told("field 3 3;goose 0 0;goose 0 1;goose 0 2;").few(), NONE);
        due("a thicket less", told("field 3 3;thicket 0;thicket 1;").few(), 2);
        due("none: thickets", told("field 3 3;thicket 0;thicket 1;thicket 2;").few(), NONE);
    }

    @Holds(promise = {17}, words = "FEW. NONE.")
    static void fewNoneIsNoRefusal() {
        leaves("none", () -> told("field 3 3;thicket 5;thicket 7;"), FoxGeese::few, NONE);
        leaves("nought", () -> told("field 3 3;fox 0 1;"), FoxGeese::few, 0);
    }

    @Holds(promise = {18}, words = "LUCK for n (0 .. 4): n times she does one of the STEPS that she can, all alike, each a MOVE,")
    static void luckFromNoneToFour() {
        luckIs("no step", told("field 3 3;fox 0 4;"), 0, 0, 1);
        luckIs("one of four", told("field 3 3;fox 0 4;"), 1, 1, 4);
        luckIs("1/4, and 2/4 by 1/3", told("field 3 3;fox 0 4;"), 2, 5, 12);
        luckIs("three of eight", told("field 3 3;fox 1 4;"), 1, 3, 8);
        // a way one cell wide: behind the first step she turns back by 1/2 each time
        String way = "field 3 5;fox 0 13;thicket 12;thicket 14;thicket 9;thicket 11;thicket 6;thicket 8;thicket 3;thicket 5;";
        luckIs("three steps are too few", told(way), 3, 0, 1);
        luckIs("four are not", told(way), 4, 1, 8);
        refused("luck(-1)", Edges::rich, x -> x.luck(-1), BAD);
        refused("luck(5)", Edges::rich, x -> x.luck(5), BAD);
        luckIs("the lame one along in an even move", told("field 3 3;fox 3 4;"), 1, 1, 4);
        luckIs("not in an odd one", told("field 3 3;fox 3 4;pass;"), 1, 0, 1);
        luckIs("but in the next, from 3 or 5, one of three", told("field 3 3;fox 3 4;pass;"), 2, 1, 3);
    }

    @Holds(promise = {18}, words = "the GEESE standing still (HOME: no more; who can do none stays, a MOVE, too):")
    static void luckStandingStill() {
        for (int n = 0; n <= 4; n++) {
            luckIs("home", told("field 3 3;fox 0 2;"), n, 1, 1);
            luckIs("shut in", told("field 3 3;thicket 5;thicket 7;"), n, 0, 1);
            luckIs("once home she stays", told("field 3 3;fox 0 4;thicket 3;thicket 5;thicket 7;"), n, n == 0 ? 0 : 1, 1);
        }
        luckIs("a goose that could step aside stands", told("field 3 3;goose 0 1;thicket 0;thicket 2;fox 0 4;"), 4, 0, 1);
        // from 8: stays in move 1, to 5 in 2, stays in 3, home (2) or back (8) in 4
        luckIs("who can do none stays, a move", told("field 3 3;thicket 4;thicket 7;fox 3 8;pass;"), 4, 1, 2);
        luckIs("three are too few then", told("field 3 3;thicket 4;thicket 7;fox 3 8;pass;"), 3, 0, 1);
        // over 4 to 3, where only the eaten one's cell is free, then home by one of four
        luckIs("who is leapt over is eaten", told("field 3 3;fox 2 5;goose 5 4;thicket 0;thicket 2;thicket 6;thicket 8;"), 3, 1, 4);
    }

    @Holds(promise = {18, 27}, words = "the chance that she is HOME: THE FRACTION.")
    static void luckIsTheFraction() {
        FoxGeese x = told("field 3 3;fox 1 4;");
        luckIs("first", x, 1, 3, 8);
        luckIs("then another", x, 0, 0, 1);
        x.fox(0, 0);
        due("it stays until luck is asked", x.part(0), 0);
        luckIs("then certain", x, 2, 1, 1);
    }

    @Holds(promise = {18}, words = "LUCK is THE FRACTION: 1. BAD.")
    static void luckRefused() {
        for (int n : FAR) refused("luck(" + n + ")", Edges::rich, x -> x.luck(n), BAD);
        FoxGeese x = told("field 3 3;fox 1 4;");
        due("luck(1)", x.luck(1), 1);
        due("luck(5)", x.luck(5), BAD);
        due("the fraction stays", x.part(0), 3);
        due("the fraction stays", x.part(1), 8);
    }

    @Holds(promise = {15, 16, 17, 18, 26}, words = "(MOVES go beyond 9999 in all of these.)")
    static void movesGoBeyond9999() {
        FoxGeese lame = inMove9999(3, 7);
        due("can in move 9999", lame.can(4), bits(8));
        due("worth: 2 open in move 10000", lame.worth(1), 2);
        due("worth: 1 open in move 10001", lame.worth(2), 1);
        due("worth: 2 open in move 10002", lame.worth(3), 2);
        due("best", lame.best(1), 408);
        due("few: aside, up in move 10000, aside, up", lame.few(), 4);
        luckIs("luck: up in moves 10000 and 10002", lame, 4, 1, 8);
        FoxGeese plain = inMove9999(0, 4);
        due("worth", plain.worth(1), 99);
        due("best", plain.best(1), 401);
        luckIs("luck", plain, 1, 1, 4);
        int home = 0;
        for (int seed = 0; seed < 40; seed++) home += plain.evenings(seed, 1) == 2 ? 1 : 0;
        Due.holds("evenings", home > 0);
        due("and nothing is changed", plain.count(5), 9999);
    }

    public static void main(String[] args) throws ReflectiveOperationException {
        run(EdgesBestTest.class);
    }
}
