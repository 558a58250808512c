/** The edges that the document names for a field, its thickets, the fox and the geese told: promises 1 to 5. */
public final class EdgesFieldTest extends Edges {

    @Holds(promise = {1}, words = "As told; no GEESE.")
    static void newObjectIsEmpty() {
        counts("new", new FoxGeese(), 5, 5, 0, 0, 0, 0, 2, 0, 0, 0, 0, 0, 0);
        for (int i = 0; i < 4; i++) due("of(" + i + ", 0)", new FoxGeese().of(i, 0), BAD);
        statuses("new", new FoxGeese(), 0, 0, 0);
    }

    @Holds(promise = {1}, words = "CELLS (5, 5 at first)")
    static void newObjectIsFiveByFive() {
        due("W", new FoxGeese().count(0), 5);
        due("H", new FoxGeese().count(1), 5);
        due("the last cell", new FoxGeese().of(4, 1), 24);
        due("the first one outside", new FoxGeese().thicket(25), BAD);
    }

    @Holds(promise = {2, 8}, words = "THE FIELD has W (3 ..")
    static void widthFromThree() {
        for (int h = 3; h <= 5; h++) {
            int high = h;
            due("field(3, " + h + ")", new FoxGeese().field(3, h), 0);
            for (int w : new int[] {2, 1, 0, -1, -3, -4, -5}) {
                refused("field(" + w + ", " + h + ")", Edges::rich, x -> x.field(w, high), BAD);
            }
            due("field 3 " + h, readOf(new FoxGeese(), "field 3 " + h + ";"), 1);
            due("field 2 " + h, readOf(new FoxGeese(), "field 2 " + h + ";"), -16);
        }
    }

    @Holds(promise = {2, 8}, words = "5) by H (3 ..")
    static void widthToFive() {
        for (int h = 3; h <= 5; h++) {
            int high = h;
            due("field(5, " + h + ")", new FoxGeese().field(5, h), 0);
            refused("field(6, " + h + ")", Edges::rich, x -> x.field(6, high), BAD);
            for (int w : FAR) refused("field(" + w + ", " + h + ")", Edges::rich, x -> x.field(w, high), BAD);
            due("field 5 " + h, readOf(new FoxGeese(), "field 5 " + h + ";"), 1);
            due("field 6 " + h, readOf(new FoxGeese(), "field 6 " + h + ";"), -16);
        }
    }

    @Holds(promise = {2, 8}, words = "by H (3 .. 5) CELLS")
    static void heightFromThreeToFive() {
        for (int w = 3; w <= 5; w++) {
            int wide = w;
            due("field(" + w + ", 3)", new FoxGeese().field(w, 3), 0);
            due("field(" + w + ", 5)", new FoxGeese().field(w, 5), 0);
            for (int h : new int[] {2, 1, 0, -1, -3, -5, 6}) {
                refused("field(" + w + ", " + h + ")", Edges::rich, x -> x.field(wide, h), BAD);
            }
            for (int h : FAR) refused("field(" + w + ", " + h + ")", Edges::rich, x -> x.field(wide, h), BAD);
            due("field " + w + " 3", readOf(new FoxGeese(), "field " + w + " 3;"), 1);
            due("field " + w + " 5", readOf(new FoxGeese(), "field " + w + " 5;"), 1);
            due("field " + w + " 2", readOf(new FoxGeese(), "field " + w + " 2;"), -18);
            due("field " + w + " 6", readOf(new FoxGeese(), "field " + w + " 6;"), -18);
        }
    }

    @Holds(promise = {3, 4, 5}, words = "CELL y times W, and x, is at x (0 .. W less 1), y (0 .. H less 1).")
    static void cellsOfEverySize() {
        for (int w = 3; w <= 5; w++) {
            for (int h = 3; h <= 5; h++) {
                int wide = w, high = h, last = w * h - 1;
                String size = " in " + w + " by " + h;
                FoxGeese x = sized(w, h);
                due("fox(0, 0)" + size, x.fox(0, 0), 0);
                due("thicket(last)" + size, x.thicket(last), 1);
                FoxGeese y = sized(w, h);
                due("thicket(0)" + size, y.thicket(0), 1);
                due("fox(1, last)" + size, y.fox(1, last), 0);
                FoxGeese z = sized(w, h);
                due("goose(0, 0)" + size, z.goose(0, 0), 0);
                z.fox(0, 4);
                due("goose(0, last)" + size, z.goose(0, last), 1);
                for (int c : new int[] {-1, last + 1, 25, 31, 32, 32 + 1, Integer.MIN_VALUE, Integer.MAX_VALUE}) {
                    refused("thicket(" + c + ")" + size, () -> sized(wide, high), f -> f.thicket(c), BAD);
                    refused("fox(0, " + c + ")" + size, () -> sized(wide, high), f -> f.fox(0, c), BAD);
                    refused("goose(0, " + c + ")" + size, () -> sized(wide, high), f -> f.goose(0, c), BAD);
                }
            }
        }
    }

    @Holds(promise = {9, 10}, words = "CELL y times W, and x, is at x (0 .. W less 1), y (0 .. H less 1).")
    static void cellsToStepTo() {
        for (int w = 3; w <= 5; w++) {
            for (int h = 3; h <= 5; h++) {
                int last = w * h - 1;
                String size = " in " + w + " by " + h, head = "field " + w + " " + h + ";";
                due("goes(0)" + size, told(head + "fox 0 " + w + ";pass;").goes(0), 0);
                due("goes(last)" + size, told(head + "fox 0 " + (last - 1) + ";pass;").goes(last), 0);
                due("moves(0, 0)" + size, told(head + "goose 0 1;").moves(0, 0), 1);
                due("moves(0, last)" + size, told(head + "fox 0 " + w + ";goose 0 " + (last - 1) + ";").moves(0, last), last - 1);
                for (int c : new int[] {-1, last + 1, 31, 32, Integer.MIN_VALUE, Integer.MAX_VALUE}) {
                    refused("goes(" + c + ")" + size, () -> told(head + "pass;"), x -> x.goes(c), BAD);
                    refused("moves(0, " + c + ")" + size, () -> told(head + "goose 0 1;"), x -> x.moves(0, c), BAD);
                }
            }
        }
    }

    @Holds(promise = {1, 2}, words = "THICKETS: CELLS (bits) that nobody enters (none at first).")
    static void noThicketsAtFirst() {
        due("new", new FoxGeese().count(8), 0);
        FoxGeese x = new FoxGeese();
        for (int c = 0; c < 24; c++) x.thicket(c);
        x.field(5, 5);
        due("a field anew", x.count(8), 0);
        for (int c = 0; c < 24; c++) due("thicket(" + c + ")", x.thicket(c), c + 1);
    }

    @Holds(promise = {3, 9, 10, 14}, words = "THICKETS: CELLS (bits) that nobody enters")
    static void nobodyEntersAThicket() {
        for (int kind = 0; kind < 6; kind++) {
            FoxGeese x = afterMoves(1);
            x.fox(kind, 12);
            for (int c : new int[] {6, 7, 8, 11, 13, 16, 17, 18}) x.thicket(c);
            due("a fox of kind " + kind + " amid thickets", x.can(4), 0);
            due("she goes into none", x.goes(13), NO);
            FoxGeese y = new FoxGeese();
            y.goose(kind, 12);
            for (int c : new int[] {6, 7, 8, 11, 13, 16, 17, 18}) y.thicket(c);
            due("a goose of kind " + kind + " amid thickets", y.can(0), 0);
            due("it moves into none", y.moves(0, 17), NO);
        }
        FoxGeese x = told("field 5 5;fox 4 12;goose 0 7;goose 0 6;thicket 2;thicket 0;");
        due("nor does who leaps", x.can(4), bits(11, 13, 17));
    }

    @Holds(promise = {1, 2, 8}, words = "THE FOX has a KIND (0 at first), is on a CELL (the last one at first).")
    static void foxAtFirst() {
        due("new: kind", new FoxGeese().of(4, 0), 0);
        due("new: cell", new FoxGeese().of(4, 1), 24);
        for (int w = 3; w <= 5; w++) {
            for (int h = 3; h <= 5; h++) {
                FoxGeese x = new FoxGeese();
                x.fox(5, 1);
                x.field(w, h);
                due("field: kind", x.of(4, 0), 0);
                due("field: cell", x.of(4, 1), w * h - 1);
                x.fox(5, 1);
                readOf(x, "field " + w + " " + h + ";");
                due("read: kind", x.of(4, 0), 0);
                due("read: cell", x.of(4, 1), w * h - 1);
            }
        }
    }

    @Holds(promise = {5, 13}, words = "GEESE 0 .. 3, as they come: a KIND, on a CELL; EATEN or not (not at first).")
    static void geeseAsTheyCome() {
        FoxGeese x = new FoxGeese();
        int[] kinds = {5, 0, 3, 1}, cells = {9, 2, 14, 0};
        for (int i = 0; i < 4; i++) {
            due("none yet", x.of(i, 0), BAD);
            due("goose", x.goose(kinds[i], cells[i]), i);
            due("how many", x.count(2), i + 1);
        }
        for (int i = 0; i < 4; i++) {
            due("kind", x.of(i, 0), kinds[i]);
            due("cell", x.of(i, 1), cells[i]);
        }
        due("not eaten at first", x.count(3), 0);
        due("a fifth", x.goose(0, 20), FULL);
        FoxGeese anew = rich();
        due("one is eaten", anew.count(3), 1);
        anew.field(5, 5);
        anew.goose(2, 8);
        due("who comes later is not", anew.count(3), 0);
        due("it has a cell", anew.of(0, 1), 8);
    }

    @Holds(promise = {3, 4, 5}, words = "On a CELL is one of them at most, none in a THICKET.")
    static void oneOnACell() {
        FoxGeese x = told("field 3 3;fox 0 4;goose 0 0;goose 0 2;thicket 6;");
        due("a goose on a goose", x.goose(0, 2), NO);
        due("a goose on the fox", x.goose(0, 4), NO);
        due("a goose in a thicket", x.goose(0, 6), NO);
        due("the fox on a goose", x.fox(0, 0), NO);
        due("the fox in a thicket", x.fox(0, 6), NO);
        due("a thicket on a goose", x.thicket(0), NO);
        due("a thicket on the fox", x.thicket(4), NO);
        due("the cell that she left is free", told("field 3 3;fox 0 4;").goose(0, 8), 0);
        due("the cell that a goose left is free", told("field 3 3;goose 0 0;move 0 3;").thicket(0), 1);
        due("the cell of an eaten one is free", rich().goose(0, 12), 3);
    }

    @Holds(promise = {9, 10}, words = "On a CELL is one of them at most, none in a THICKET.")
    static void nobodyStepsOntoAnother() {
        FoxGeese x = told("field 3 3;fox 0 4;goose 0 3;goose 0 0;thicket 6;");
        due("a goose onto the fox", x.moves(0, 4), NO);
        due("a goose onto a goose", x.moves(1, 3), NO);
        due("a goose into a thicket", x.moves(0, 6), NO);
        x.moves(1, 1);
        due("the fox onto a goose", x.goes(3), NO);
        due("the fox onto another", x.goes(1), NO);
        due("the fox to a free cell", x.goes(5), 0);
    }

    @Holds(promise = {1, 2, 8, 31}, words = "TURN: the GEESE's (0; at first) or the FOX's (1).")
    static void turnAtFirst() {
        due("new", new FoxGeese().count(4), 0);
        FoxGeese x = afterMoves(1);
        due("the fox's", x.count(4), 1);
        x.field(3, 3);
        due("a field anew", x.count(4), 0);
        x.passes();
        readOf(x, "field 4 4;");
        due("a field read", x.count(4), 0);
    }

    @Holds(promise = {2}, words = "W, H; all else as at first")
    static void fieldMakesAllElseAsAtFirst() {
        FoxGeese x = rich();
        x.luck(0);
        x.clear();
        x.field(4, 3);
        due("as a new object of that size", x.digest(), sized(4, 3).digest());
        due("nothing to undo", x.undo(), NO);
        due("geese that come are 0 on", x.goose(0, 0), 0);
        due("no marks of an earlier goose", x.kinds(0), 63);
        due("no notes", x.is(), 63);
    }

    @Holds(promise = {2}, words = "(but for IMAGES, THE TEXT, THE FRACTION, STATUS)")
    static void fieldLeavesTheseFour() {
        FoxGeese x = rich();
        x.thicket(-1);
        x.goes(0);
        x.image(0);
        long kept = x.digest(), above = x.part(0), below = x.part(1);
        Due.holds("a fraction not as at first", below > 1);
        int bytes = x.count(12);
        x.field(3, 4);
        due("the fraction above", x.part(0), above);
        due("the fraction below", x.part(1), below);
        due("the text's length", x.count(12), bytes);
        statuses("status", x, 1, 1, 0);
        due("image 0", x.from(0), 1);
        due("as it was kept", x.digest(), kept);
        due("image 1", x.from(1), 1);
        due("its moves", x.count(5), 1);
        x.field(3, 4);
        due("the text", x.read(), 7);
    }

    @Holds(promise = {2}, words = "how many GEESE there were.")
    static void fieldTellsTheGeese() {
        for (int n = 0; n <= 4; n++) {
            FoxGeese x = new FoxGeese();
            for (int i = 0; i < n; i++) x.goose(0, i);
            due(n + " geese", x.field(5, 5), n);
            due("then none", x.field(5, 5), 0);
        }
        due("one of three is eaten", rich().field(3, 3), 3);
    }

    @Holds(promise = {2}, words = "BAD.")
    static void fieldRefused() {
        int[] sides = {2, 3, 5, 6};
        for (int w : sides) {
            for (int h : sides) {
                if (w == 2 || w == 6 || h == 2 || h == 6) {
                    refused("field(" + w + ", " + h + ")", Edges::rich, x -> x.field(w, h), BAD);
                }
            }
        }
    }

    @Holds(promise = {3}, words = "A THICKET on a CELL: how many there are.")
    static void thicketsUntilTheFieldIsFull() {
        for (int w = 3; w <= 5; w++) {
            for (int h = 3; h <= 5; h++) {
                FoxGeese x = sized(w, h);
                for (int c = 0; c < w * h - 1; c++) {
                    due("thicket(" + c + ")", x.thicket(c), c + 1);
                    due("count(8)", x.count(8), c + 1);
                }
                due("only the fox's cell is left", x.thicket(w * h - 1), NO);
                due("she can go nowhere", x.can(4), 0);
            }
        }
    }

    @Holds(promise = {3}, words = "BAD; NO: there is one, somebody is there.")
    static void thicketOutside() {
        for (int c : new int[] {-1, 25, 32, Integer.MIN_VALUE, Integer.MAX_VALUE}) {
            refused("thicket(" + c + ")", Edges::rich, x -> x.thicket(c), BAD);
        }
        refused("outside of a small one", () -> sized(3, 3), x -> x.thicket(9), BAD);
        due("the last of a small one", told("field 3 3;fox 0 0;").thicket(8), 1);
    }

    @Holds(promise = {3}, words = "NO: there is one")
    static void thicketOnAThicket() {
        refused("thicket(4)", Edges::rich, x -> x.thicket(4), NO);
        refused("thicket(20)", Edges::rich, x -> x.thicket(20), NO);
        refused("cell 0, too", () -> told("field 3 3;thicket 0;"), x -> x.thicket(0), NO);
    }

    @Holds(promise = {3}, words = "somebody is there.")
    static void thicketOnSomebody() {
        refused("the fox", Edges::rich, x -> x.thicket(7), NO);
        refused("a goose", Edges::rich, x -> x.thicket(5), NO);
        refused("the last goose", Edges::rich, x -> x.thicket(2), NO);
        due("where one was eaten", rich().thicket(12), 3);
        due("where one was", rich().thicket(0), 3);
    }

    @Holds(promise = {4}, words = "THE FOX's KIND, CELL: the KIND it was.")
    static void foxTellsTheKindItWas() {
        FoxGeese x = new FoxGeese();
        int was = 0;
        for (int kind : new int[] {5, 4, 3, 2, 1, 0, 0, 5, 5}) {
            due("fox(" + kind + ", ..)", x.fox(kind, 10 + kind), was);
            due("kind", x.of(4, 0), kind);
            due("cell", x.of(4, 1), 10 + kind);
            was = kind;
        }
        due("turn stays", rich().count(4) - changedFox().count(4), 0);
        due("moves stay", rich().count(5) - changedFox().count(5), 0);
    }

    private static FoxGeese changedFox() {
        FoxGeese x = rich();
        x.fox(3, 18);
        return x;
    }

    @Holds(promise = {4}, words = "BAD;")
    static void foxOutside() {
        for (int kind : new int[] {-1, 6, 7, Integer.MIN_VALUE, Integer.MAX_VALUE}) {
            refused("fox(" + kind + ", 18)", Edges::rich, x -> x.fox(kind, 18), BAD);
            refused("BAD ahead of NO: fox(" + kind + ", 5)", Edges::rich, x -> x.fox(kind, 5), BAD);
        }
        for (int c : new int[] {-1, 25, 32, Integer.MIN_VALUE, Integer.MAX_VALUE}) {
            refused("fox(0, " + c + ")", Edges::rich, x -> x.fox(0, c), BAD);
        }
        due("the least kind", rich().fox(0, 18), 2);
        due("the greatest kind", rich().fox(5, 18), 2);
    }

    @Holds(promise = {4}, words = "NO: a GOOSE, a THICKET is there.")
    static void foxOnSomebody() {
        refused("a goose", Edges::rich, x -> x.fox(1, 5), NO);
        refused("the last goose", Edges::rich, x -> x.fox(1, 2), NO);
        refused("a thicket", Edges::rich, x -> x.fox(1, 4), NO);
        refused("another thicket", Edges::rich, x -> x.fox(1, 20), NO);
        due("where one was eaten", rich().fox(1, 12), 2);
        due("her own cell", rich().fox(1, 7), 2);
    }

    @Holds(promise = {5}, words = "A GOOSE comes: its number.")
    static void gooseTellsItsNumber() {
        FoxGeese x = new FoxGeese();
        for (int i = 0; i < 4; i++) due("goose", x.goose(i, i), i);
        due("behind an eaten one, too", rich().goose(0, 12), 3);
    }

    @Holds(promise = {5}, words = "BAD;")
    static void gooseOutside() {
        for (int kind : new int[] {-1, 6, 7, Integer.MIN_VALUE, Integer.MAX_VALUE}) {
            refused("goose(" + kind + ", 18)", Edges::rich, x -> x.goose(kind, 18), BAD);
            refused("BAD ahead of NO: goose(" + kind + ", 5)", Edges::rich, x -> x.goose(kind, 5), BAD);
            refused("BAD ahead of FULL: goose(" + kind + ", 18)", EdgesFieldTest::fourGeese, x -> x.goose(kind, 18), BAD);
        }
        for (int c : new int[] {-1, 25, 32, Integer.MIN_VALUE, Integer.MAX_VALUE}) {
            refused("goose(0, " + c + ")", Edges::rich, x -> x.goose(0, c), BAD);
            refused("BAD ahead of FULL: goose(0, " + c + ")", EdgesFieldTest::fourGeese, x -> x.goose(0, c), BAD);
        }
        due("the least kind", rich().goose(0, 18), 3);
        due("the greatest kind", rich().goose(5, 18), 3);
    }

    private static FoxGeese fourGeese() {
        FoxGeese x = rich();
        x.goose(4, 9);
        return x;
    }

    @Holds(promise = {5}, words = "NO: somebody, a THICKET is there;")
    static void gooseOnSomebody() {
        refused("a goose", Edges::rich, x -> x.goose(0, 5), NO);
        refused("the fox", Edges::rich, x -> x.goose(0, 7), NO);
        refused("a thicket", Edges::rich, x -> x.goose(0, 4), NO);
        refused("NO ahead of FULL: a goose", EdgesFieldTest::fourGeese, x -> x.goose(0, 9), NO);
        refused("NO ahead of FULL: the fox", EdgesFieldTest::fourGeese, x -> x.goose(0, 7), NO);
        refused("NO ahead of FULL: a thicket", EdgesFieldTest::fourGeese, x -> x.goose(0, 20), NO);
        due("where one was eaten", rich().goose(0, 12), 3);
    }

    @Holds(promise = {5}, words = "FULL: 4.")
    static void gooseWhenFourAreThere() {
        due("the fourth comes", rich().goose(0, 18), 3);
        refused("a fifth, one of four being eaten", EdgesFieldTest::fourGeese, x -> x.goose(0, 18), FULL);
        refused("a fifth where one was eaten", EdgesFieldTest::fourGeese, x -> x.goose(0, 12), FULL);
    }

    public static void main(String[] args) throws ReflectiveOperationException {
        run(EdgesFieldTest.class);
    }
}
