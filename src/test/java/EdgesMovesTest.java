import java.util.function.Supplier;

/** The edges that the document names for moves by turns, passing, undoing, and when a game is done: promises 9 to 13. */
public final class EdgesMovesTest extends Edges {
    /** In her turn she can step to 5 and 7. */
    private static final String HER_TURN = "field 3 3;goose 0 0;goose 5 1;move 0 3;";

    private static Supplier<FoxGeese> made(String text) {
        return () -> told(text);
    }

    /**
     * Her turn on cell 7, where she could step to 4 and 8. More calls than an object is used for lead here, but by
     * fewer nobody can see what the document says of 9999.
     */
    private static FoxGeese afterMost() {
        FoxGeese x = told("field 3 3;goose 5 6;");
        for (int m = 0; m < 9999; m++) {
            if (m % 2 == 0) due("pass " + m, x.passes(), m + 1);
            else x.goes(m % 4 == 1 ? 7 : 8);
        }
        due("moves", x.count(5), 9999);
        return x;
    }

    @Holds(promise = {1, 31}, words = "MOVES have numbers, 0 at first")
    static void movesFromNought() {
        due("new", new FoxGeese().count(5), 0);
        FoxGeese x = rich();
        x.field(3, 3);
        due("a field anew", x.count(5), 0);
        for (int m = 0; m <= 12; m++) due("after " + m, afterMoves(m).count(5), m);
    }

    @Holds(promise = {9, 10, 11}, words = "MOVES have numbers, 0 at first (9999 at most)")
    static void movesAreMost() {
        FoxGeese x = afterMost();
        due("it is her turn", x.count(4), 1);
        due("the game is not done", x.count(7), 0);
        due("she could step", x.can(4), bits(4, 8));
        long before = x.digest();
        due("but does not", x.goes(4), NO);
        due("nor to another cell", x.goes(8), NO);
        due("nor does a goose", x.moves(0, 7), NO);
        due("nor do they pass", x.passes(), NO);
        due("a number not as told is BAD", x.goes(9), BAD);
        due("nothing is changed", x.digest(), before);
        statuses("counted", x, 1, 4, 0);
        due("undone, it goes on", x.undo(), 9998);
        due("the last move there is", x.passes(), 9999);
        due("no further one", x.goes(4), NO);
    }

    @Holds(promise = {14, 31}, words = "the one to come has the number of how many were done.")
    static void numberOfTheMoveToCome() {
        for (int m = 0; m < 6; m++) {
            FoxGeese x = afterMoves(m);
            x.fox(3, 12);
            due("the lame one in move " + m, x.can(4), m % 2 == 0 ? bits(7, 11, 13, 17) : bits(11, 13));
        }
    }

    @Holds(promise = {31}, words = "The GAME is DONE, if the FOX is at y 0 (HOME),")
    static void homeAtTheNearSide() {
        for (int w = 3; w <= 5; w++) {
            for (int h = 3; h <= 5; h++) {
                for (int turn = 0; turn < 2; turn++) {
                    for (int c = 0; c < w * h; c++) {
                        FoxGeese x = sized(w, h);
                        if (turn == 1) x.passes();
                        x.fox(0, c);
                        due("on " + c + " of " + w + " by " + h, x.count(7), c < w ? 2 : 0);
                    }
                }
            }
        }
        FoxGeese shut = told("field 3 3;pass;fox 0 0;thicket 1;thicket 3;");
        due("home, though in her turn she can do no step", shut.count(7), 2);
    }

    @Holds(promise = {31}, words = "or it is her TURN and she can do no STEP (CAUGHT).")
    static void caughtInHerTurn() {
        due("her turn, no step", told("field 3 3;thicket 5;thicket 7;pass;").count(7), 1);
        due("not her turn", told("field 3 3;thicket 5;thicket 7;").count(7), 0);
        due("one step is left", told("field 3 3;thicket 5;pass;").count(7), 0);
        due("a slant is left", told("field 3 3;fox 1 8;thicket 5;thicket 7;pass;").count(7), 0);
        due("a leap is left", told("field 3 3;fox 2 8;thicket 5;goose 5 7;pass;").count(7), 0);
        due("no leap for the plain one", told("field 3 3;fox 0 8;thicket 5;goose 5 7;pass;").count(7), 1);
        due("the lame one may only go aside", told("field 3 3;fox 3 8;thicket 7;pass;").count(7), 1);
        due("by geese", told("field 3 3;goose 5 7;goose 0 4;move 1 5;").count(7), 1);
    }

    @Holds(promise = {9, 10, 31}, words = "A MOVE: a STEP by whose TURN it is,")
    static void stepsByTurns() {
        FoxGeese x = told("field 3 3;goose 0 0;");
        for (int m = 0; m < 6; m++) {
            due("turn", x.count(4), m % 2);
            due("moves", x.count(5), m);
            if (m % 2 == 0) x.moves(0, m % 4 == 0 ? 1 : 0);
            else x.goes(m % 4 == 1 ? 7 : 8);
        }
        due("moves", x.count(5), 6);
        due("turn", x.count(4), 0);
    }

    @Holds(promise = {11}, words = "or PASSING (by the GEESE, if none of them can do any STEP):")
    static void passingIfNoneCanStep() {
        due("no geese", told("field 3 3;").passes(), 1);
        due("all at the far side", told("field 3 3;goose 5 6;goose 5 7;").passes(), 1);
        due("the last can step", told("field 3 3;goose 5 6;goose 5 7;goose 5 5;goose 5 1;").passes(), NO);
        due("the first can step", told("field 3 3;goose 5 1;goose 5 6;goose 5 7;").passes(), NO);
        due("all four shut in", told("field 3 3;fox 0 5;goose 5 6;goose 5 3;goose 5 0;goose 5 2;").passes(), 1);
        due("all are eaten", told("field 5 5;fox 2 22;goose 5 12;move 0 17;go 12;").passes(), 3);
        due("the fox never passes", told("field 3 3;thicket 5;thicket 7;pass;").passes(), NO);
        due("the aged one in move 0", told("field 3 3;goose 4 0;").passes(), NO);
        FoxGeese aged = afterMoves(4);
        aged.goose(4, 0);
        due("the aged one in move 4", aged.passes(), 5);
    }

    @Holds(promise = {9, 10, 11}, words = "MOVES are one more, it is the other's TURN.")
    static void oneMoreAndTheOther() {
        FoxGeese x = told("field 3 3;goose 0 0;");
        x.moves(0, 3);
        counts("a goose's step", x, 3, 3, 1, 0, 1, 1);
        x.goes(7);
        counts("her step", x, 3, 3, 1, 0, 0, 2);
        FoxGeese y = new FoxGeese();
        y.passes();
        counts("passing", y, 5, 5, 0, 0, 1, 1);
    }

    @Holds(promise = {9}, words = "The FOX STEPS to a CELL: 1 a GOOSE is EATEN, 0.")
    static void goesTellsWhetherOneIsEaten() {
        due("none", told(HER_TURN).goes(5), 0);
        FoxGeese x = told("field 5 5;fox 2 17;goose 5 7;move 0 12;");
        due("beside one", told("field 5 5;fox 2 17;goose 5 7;move 0 12;").goes(16), 0);
        due("over one", x.goes(7), 1);
        due("where she is", x.of(4, 1), 7);
    }

    @Holds(promise = {9}, words = "BAD;")
    static void goesOutside() {
        for (int c : new int[] {-1, 9, 32 + 5, Integer.MIN_VALUE, Integer.MAX_VALUE}) {
            refused("goes(" + c + ")", made(HER_TURN), x -> x.goes(c), BAD);
            refused("not her turn, goes(" + c + ")", made("field 3 3;"), x -> x.goes(c), BAD);
            refused("done, goes(" + c + ")", made("field 3 3;fox 0 0;"), x -> x.goes(c), BAD);
        }
        refused("in 5 by 5", Edges::rich, x -> x.goes(25), BAD);
    }

    @Holds(promise = {9}, words = "NO: not her TURN,")
    static void goesNotByTurn() {
        refused("at first", made("field 3 3;"), x -> x.goes(7), NO);
        refused("behind her move", made(HER_TURN + "go 7;"), x -> x.goes(6), NO);
        due("in her turn", told(HER_TURN).goes(7), 0);
    }

    @Holds(promise = {9}, words = "she can not,")
    static void goesWhereSheCanNot() {
        for (int c : new int[] {0, 1, 2, 3, 4, 6, 8}) refused("goes(" + c + ")", made(HER_TURN), x -> x.goes(c), NO);
        for (int c : new int[] {5, 7}) due("goes(" + c + ")", told(HER_TURN).goes(c), 0);
        refused("into a thicket", made("field 3 3;thicket 7;pass;"), x -> x.goes(7), NO);
        refused("the lame one along in an odd move", made("field 3 3;fox 3 8;pass;"), x -> x.goes(5), NO);
        refused("all that is kept stays", Edges::rich, x -> x.goes(5), NO);
    }

    @Holds(promise = {9}, words = "the GAME is DONE, MOVES are 9999.")
    static void goesInAGameThatIsDone() {
        refused("home", made("field 3 3;pass;fox 0 0;"), x -> x.goes(1), NO);
        refused("home by her move", made("field 3 3;fox 0 5;pass;go 2;"), x -> x.goes(5), NO);
        refused("caught", made("field 3 3;thicket 5;thicket 7;pass;"), x -> x.goes(7), NO);
        FoxGeese most = afterMost();
        due("9999", most.goes(8), NO);
        due("moves", most.count(5), 9999);
    }

    @Holds(promise = {10}, words = "A GOOSE STEPS to a CELL: where it was.")
    static void movesTellsWhereItWas() {
        due("from cell 0", told("field 3 3;goose 0 0;").moves(0, 1), 0);
        FoxGeese x = told("field 3 3;fox 0 3;goose 0 0;goose 0 1;goose 0 2;goose 0 7;");
        due("goose 3", x.moves(3, 8), 7);
        due("where it is", x.of(3, 1), 8);
        due("the others stay", x.of(2, 1), 2);
    }

    @Holds(promise = {10}, words = "BAD: EATEN, too;")
    static void movesOutside() {
        for (int i : new int[] {-1, 2, 3, 4, 5, Integer.MIN_VALUE, Integer.MAX_VALUE}) {
            refused("moves(" + i + ", 4)", made("field 3 3;goose 0 0;goose 0 1;"), x -> x.moves(i, 4), BAD);
        }
        for (int c : new int[] {-1, 9, 32 + 3, Integer.MIN_VALUE, Integer.MAX_VALUE}) {
            refused("moves(0, " + c + ")", made("field 3 3;goose 0 0;"), x -> x.moves(0, c), BAD);
            refused("done, moves(0, " + c + ")", made("field 3 3;goose 0 0;fox 0 2;"), x -> x.moves(0, c), BAD);
            refused("her turn, moves(0, " + c + ")", made(HER_TURN), x -> x.moves(0, c), BAD);
        }
        due("the last goose", told("field 3 3;goose 0 0;goose 0 1;").moves(1, 4), 1);
        refused("the eaten one", Edges::rich, x -> x.moves(0, 17), BAD);
        String eaten = "field 5 5;fox 2 17;goose 5 7;goose 0 0;move 0 12;go 7;";
        refused("the eaten one in its turn", made(eaten), x -> x.moves(0, 17), BAD);
        due("the other", told(eaten).moves(1, 1), 0);
    }

    @Holds(promise = {10}, words = "NO: likewise.")
    static void movesLikewise() {
        refused("not their turn", made(HER_TURN), x -> x.moves(0, 4), NO);
        for (int c : new int[] {0, 1, 2, 5, 6, 7, 8}) {
            refused("it can not, " + c, made("field 3 3;goose 0 0;goose 0 1;"), x -> x.moves(0, c), NO);
        }
        due("it can", told("field 3 3;goose 0 0;goose 0 1;").moves(0, 3), 0);
        refused("where the other could", made("field 3 3;goose 0 0;goose 0 1;"), x -> x.moves(0, 4), NO);
        refused("home", made("field 3 3;goose 0 0;fox 0 2;"), x -> x.moves(0, 3), NO);
        refused("home by her move", made("field 3 3;fox 0 5;goose 0 0;move 0 3;go 2;"), x -> x.moves(0, 4), NO);
        refused("caught", made("field 3 3;goose 5 7;goose 0 4;move 1 5;"), x -> x.moves(1, 4), NO);
        due("9999", afterMost().moves(0, 7), NO);
    }

    @Holds(promise = {11}, words = "PASSING: MOVES then.")
    static void passesTellsTheMoves() {
        for (int m = 0; m <= 20; m += 2) due("in move " + m, afterMoves(m).passes(), m + 1);
    }

    @Holds(promise = {11}, words = "NO: it can not be, the GAME is DONE, MOVES are 9999.")
    static void passesRefused() {
        refused("one can step", made("field 3 3;goose 0 0;"), FoxGeese::passes, NO);
        refused("her turn", made("field 3 3;pass;"), FoxGeese::passes, NO);
        refused("home", made("field 3 3;fox 0 1;"), FoxGeese::passes, NO);
        refused("home by her move", made("field 3 3;fox 0 4;pass;go 1;"), FoxGeese::passes, NO);
        refused("caught", made("field 3 3;thicket 5;thicket 7;pass;"), FoxGeese::passes, NO);
        refused("all that is kept stays", Edges::rich, FoxGeese::passes, NO);
        due("9999", afterMost().passes(), NO);
    }

    @Holds(promise = {12}, words = "UNDO: all of the FOX's CELL, GEESE's, who is EATEN, TURN, MOVES as ahead of the last MOVE")
    static void undoTakesAllBack() {
        FoxGeese x = told("field 5 5;fox 2 17;goose 5 7;goose 3 0;");
        long first = noUndo(x);
        x.moves(0, 12);
        long second = noUndo(x);
        x.goes(7);
        long third = noUndo(x);
        x.moves(1, 5);
        due("the goose's step", x.undo(), 2);
        due("all as ahead of it", noUndo(x), third);
        due("the leap", x.undo(), 1);
        due("all as ahead of it", noUndo(x), second);
        due("the eaten one is back", x.of(0, 1), 12);
        due("the first step", x.undo(), 0);
        due("all as ahead of it", noUndo(x), first);
        FoxGeese y = new FoxGeese();
        y.passes();
        due("passing", y.undo(), 0);
        due("whose turn", y.count(4), 0);
    }

    /** What the object tells, but for how many moves may be undone. */
    private static long noUndo(FoxGeese x) {
        long told = 7;
        for (int k = 0; k < 11; k++) told = 31 * told + x.count(k);
        for (int i = 0; i <= 4; i++) told = 31 * told + 99 * x.of(i, 0) + x.of(i, 1);
        return told;
    }

    @Holds(promise = {12}, words = "UNDO: all of the FOX's CELL, GEESE's, who is EATEN, TURN, MOVES as ahead of the last MOVE")
    static void undoTakesNothingElseBack() {
        FoxGeese x = told("field 3 3;fox 1 4;goose 0 0;goose 0 1;");
        x.moves(0, 3);
        x.note(1, 1, 0, 0, 1);
        x.mark(1, 0, 1, 4, 0);
        x.luck(1);
        x.type(32);
        x.undo();
        due("notes stay", x.is(), bits(1, 5));
        due("marks stay", x.kinds(1), bits(4));
        due("the fraction, 2 of 6, stays", x.part(1), 3);
        due("the text stays", x.count(12), 39);
        due("kinds stay", x.of(4, 0), 1);
        due("geese stay", x.count(2), 2);
    }

    @Holds(promise = {12}, words = "(8 at most;")
    static void undoEightAtMost() {
        for (int m = 0; m <= 12; m++) {
            FoxGeese x = afterMoves(m);
            due("may be undone behind " + m, x.count(11), Math.min(m, 8));
            for (int k = 1; k <= Math.min(m, 8); k++) {
                due("undo", x.undo(), m - k);
                due("her cell", x.of(4, 1), afterMoves(m - k).of(4, 1));
                due("how many are left", x.count(11), Math.min(m, 8) - k);
            }
            due("no more", x.undo(), NO);
            due("moves", x.count(5), Math.max(0, m - 8));
        }
        FoxGeese x = afterMoves(12);
        for (int k = 0; k < 3; k++) x.undo();
        x.goes(x.of(4, 1) - 5);
        due("a move comes behind those undone", x.count(11), 6);
        due("it is undone first", x.undo(), 9);
    }

    @Holds(promise = {3, 4, 5, 12}, words = "behind a THICKET, a GOOSE that comes, THE FOX told none may be).")
    static void nothingToUndoBehindThese() {
        FoxGeese x = afterMoves(3);
        x.thicket(0);
        due("a thicket", x.count(11), 0);
        due("a thicket", x.undo(), NO);
        FoxGeese y = afterMoves(3);
        y.goose(0, 0);
        due("a goose", y.count(11), 0);
        due("a goose", y.undo(), NO);
        FoxGeese z = afterMoves(3);
        z.fox(0, z.of(4, 1));
        due("the fox, though as she was", z.count(11), 0);
        due("the fox", z.undo(), NO);
        due("moves stay", z.count(5), 3);
        z.goes(z.of(4, 1) - 5);
        due("what comes behind may be", z.undo(), 3);
    }

    @Holds(promise = {3, 4, 5, 12}, words = "behind a THICKET, a GOOSE that comes, THE FOX told none may be).")
    static void refusedOnesLeaveWhatMayBeUndone() {
        FoxGeese x = rich();
        int before = x.count(11);
        Due.holds("some may be", before > 0);
        x.thicket(4);
        x.thicket(-1);
        x.goose(0, 7);
        x.goose(6, 12);
        x.fox(0, 4);
        x.fox(6, 12);
        due("as many", x.count(11), before);
        due("undo", x.undo(), 2);
    }

    @Holds(promise = {12}, words = "UNDO: MOVES then.")
    static void undoTellsTheMoves() {
        FoxGeese x = afterMoves(5);
        for (int m = 4; m >= 0; m--) due("undo", x.undo(), m);
        due("her cell", x.of(4, 1), 24);
        FoxGeese home = told("field 3 3;fox 0 4;pass;");
        home.goes(1);
        due("a game that was done", home.undo(), 1);
        due("is not", home.count(7), 0);
        due("and goes on", home.goes(3), 0);
    }

    @Holds(promise = {12}, words = "NO: none may be.")
    static void undoNone() {
        refused("new", FoxGeese::new, FoxGeese::undo, NO);
        refused("a field read", made("field 3 3;pass;"), FoxGeese::undo, NO);
        refused("all were undone", () -> {
            FoxGeese x = afterMoves(1);
            x.undo();
            return x;
        }, FoxGeese::undo, NO);
        refused("a field anew", () -> {
            FoxGeese x = afterMoves(1);
            x.field(5, 5);
            return x;
        }, FoxGeese::undo, NO);
    }

    @Holds(promise = {13}, words = "Of a GOOSE, or 4 the FOX: KIND (0), CELL (1; NONE: EATEN).")
    static void ofEach() {
        FoxGeese x = told("field 3 3;fox 5 4;goose 0 0;goose 1 1;goose 4 2;goose 5 3;");
        int[] kinds = {0, 1, 4, 5, 5}, cells = {0, 1, 2, 3, 4};
        for (int i = 0; i <= 4; i++) {
            due("kind of " + i, x.of(i, 0), kinds[i]);
            due("cell of " + i, x.of(i, 1), cells[i]);
        }
        due("an eaten one's kind", rich().of(0, 0), 5);
        due("an eaten one's cell", rich().of(0, 1), NONE);
        due("that is no refusal", rich().status(0), 0);
    }

    @Holds(promise = {13}, words = "BAD.")
    static void ofOutside() {
        for (int i : new int[] {-1, 3, 5, Integer.MIN_VALUE, Integer.MAX_VALUE}) {
            for (int what = 0; what <= 1; what++) {
                int w = what;
                refused("of(" + i + ", " + w + ")", Edges::rich, x -> x.of(i, w), BAD);
            }
        }
        for (int i = 0; i <= 4; i++) {
            if (i == 3) continue;
            int who = i;
            for (int what : new int[] {-1, 2, Integer.MIN_VALUE, Integer.MAX_VALUE}) {
                refused("of(" + i + ", " + what + ")", Edges::rich, x -> x.of(who, what), BAD);
            }
        }
        refused("no geese", FoxGeese::new, x -> x.of(0, 0), BAD);
        due("the fox is there", new FoxGeese().of(4, 1), 24);
    }

    public static void main(String[] args) throws ReflectiveOperationException {
        run(EdgesMovesTest.class);
    }
}
