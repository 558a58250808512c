/** The edges that the document names for a field told by a text: promises 6 to 8. */
public final class EdgesTextTest extends Edges {
    private static final String SMALL = "field 3 3;";

    /** This text is read as so many items. */
    private static void reads(String text, int items) {
        due("'" + text + "'", readOf(new FoxGeese(), text), items);
    }

    /** This text has its fault there, and reading it leaves all as it was. */
    private static void fault(String text, int place) {
        leaves("'" + text + "'", () -> {
            FoxGeese x = rich();
            typeAll(x, text);
            return x;
        }, FoxGeese::read, -10 - place);
    }

    /** Of this text, told behind a field of 3 by 3, the fault is where the sign | stands (which is left out). */
    private static void faultAtBar(String items) {
        String text = SMALL + items;
        fault(text.replace("|", ""), text.indexOf('|'));
    }

    private static FoxGeese full() {
        FoxGeese x = rich();
        typeAll(x, SMALL + " ".repeat(140));
        return x;
    }

    @Holds(promise = {6, 8}, words = "THE FIELD is told by a TEXT (150 bytes at most) of ITEMS, each ended by ; :")
    static void textOf150Bytes() {
        String text = "field3 3;" + "pass;go7;pass;go8;".repeat(7) + "pass;go7;pass;";
        due("bytes", text.length(), 149);
        reads(text, 32);
        reads(text + " ", 32);
        fault(text + "g", 149);
        fault(text.substring(0, 148) + " x", 149);
        FoxGeese x = new FoxGeese();
        typeAll(x, SMALL + "pass;" + " ".repeat(135));
        due("150 bytes", x.count(12), 150);
        due("150 bytes are read", x.read(), 2);
    }

    @Holds(promise = {8}, words = "of ITEMS, each ended by ; :")
    static void eachItemIsEnded() {
        fault("field 3 3", 9);
        fault("field 3 3 goose 0 0;", 10);
        fault("field 3 3;;", 10);
        fault(";field 3 3;", 0);
        fault("field 3 3;pass", 14);
        faultAtBar("pass |pass;");
        faultAtBar("goose 0 0|");
        faultAtBar("goose 0 0 |0;");
        faultAtBar("thicket 0 |goose 0 1;");
        faultAtBar("fox 0 0 |x;");
        faultAtBar("pass;go 7 |7;");
        faultAtBar("goose 0 0;move 0 3 |pass;");
        reads("field 3 3;pass;", 2);
    }

    @Holds(promise = {8}, words = "field W H (once, first of all; the FOX on the last CELL);")
    static void fieldItem() {
        for (int w = 0; w <= 9; w++) {
            for (int h = 0; h <= 9; h++) {
                boolean wide = w >= 3 && w <= 5, high = h >= 3 && h <= 5;
                FoxGeese x = new FoxGeese();
                x.fox(3, 0);
                due("field " + w + " " + h, readOf(x, "field " + w + " " + h + ";"), !wide ? -16 : !high ? -18 : 1);
                due("the fox's cell", x.of(4, 1), wide && high ? w * h - 1 : 0);
            }
        }
        fault("field 13 3;", 6);
        fault("field 3 30;", 8);
    }

    @Holds(promise = {3, 8}, words = "thicket c;")
    static void thicketItem() {
        reads(SMALL + "thicket 0;", 2);
        reads(SMALL + "thicket 7;", 2);
        reads(SMALL + "fox 0 0;thicket 8;", 3);
        faultAtBar("fox 0 0;thicket |9;");
        faultAtBar("thicket |99;");
        reads("field 5 5;fox 0 0;thicket 24;", 3);
        fault("field 5 5;fox 0 0;thicket 25;", 26);
        FoxGeese x = told(SMALL + "thicket 0;thicket 1;thicket 2;thicket 3;thicket 4;thicket 5;thicket 6;thicket 7;");
        due("all but the fox's cell", x.count(8), 8);
    }

    @Holds(promise = {4, 8}, words = "fox KIND c;")
    static void foxItem() {
        for (int kind = 0; kind <= 9; kind++) {
            if (kind <= 5) reads(SMALL + "fox " + kind + " 4;", 2);
            else fault(SMALL + "fox " + kind + " 4;", 14);
        }
        reads(SMALL + "fox 1 0;", 2);
        reads(SMALL + "fox 1 8;", 2);
        faultAtBar("fox 1 |9;");
        FoxGeese x = told(SMALL + "fox 1 4;fox 3 2;");
        due("the later one's kind", x.of(4, 0), 3);
        due("the later one's cell", x.of(4, 1), 2);
    }

    @Holds(promise = {5, 8}, words = "goose KIND c;")
    static void gooseItem() {
        for (int kind = 0; kind <= 9; kind++) {
            if (kind <= 5) reads(SMALL + "goose " + kind + " 4;", 2);
            else fault(SMALL + "goose " + kind + " 4;", 16);
        }
        reads(SMALL + "goose 1 0;", 2);
        reads(SMALL + "goose 1 7;", 2);
        reads(SMALL + "fox 0 0;goose 1 8;", 3);
        faultAtBar("fox 0 0;goose 1 |9;");
        FoxGeese x = told(SMALL + "goose 5 4;goose 3 2;");
        due("the first's kind", x.of(0, 0), 5);
        due("the second's cell", x.of(1, 1), 2);
    }

    @Holds(promise = {8, 9}, words = "go c (the FOX to a CELL);")
    static void goItem() {
        reads(SMALL + "pass;go 7;", 3);
        reads(SMALL + "pass;go 5;", 3);
        reads(SMALL + "fox 0 3;pass;go 0;", 4);
        faultAtBar("pass;go |9;");
        FoxGeese x = told(SMALL + "fox 2 7;goose 5 1;move 0 4;go 1;");
        due("she is there", x.of(4, 1), 1);
        due("who was leapt over is eaten", x.count(3), 1);
        due("moves", x.count(5), 2);
        due("turn", x.count(4), 0);
    }

    @Holds(promise = {8, 10}, words = "move i c;")
    static void moveItem() {
        FoxGeese x = told(SMALL + "goose 0 0;goose 0 1;goose 0 2;goose 0 3;move 3 4;");
        due("goose 3 is there", x.of(3, 1), 4);
        due("moves", x.count(5), 1);
        due("turn", x.count(4), 1);
        reads(SMALL + "goose 0 0;move 0 1;", 3);
        faultAtBar("goose 0 0;move |4 1;");
        faultAtBar("goose 0 0;move 0 |9;");
    }

    @Holds(promise = {8, 11}, words = "pass.")
    static void passItem() {
        FoxGeese x = told(SMALL + "pass;");
        due("moves", x.count(5), 1);
        due("turn", x.count(4), 1);
        reads(SMALL + "goose 5 6;pass;", 3);
    }

    @Holds(promise = {8}, words = "TOKENS: words of letters a .. z,")
    static void lettersOfWords() {
        reads("field 3 3;", 1);
        fault("Field 3 3;", 0);
        fault("fieLd 3 3;", 0);
        fault("field` 3 3;", 5);
        fault("field{ 3 3;", 5);
        fault("`field 3 3;", 0);
        fault("{field 3 3;", 0);
        fault("fieldz 3 3;", 0);
        fault("fielda 3 3;", 0);
        fault("a 3 3;", 0);
        fault("z 3 3;", 0);
    }

    @Holds(promise = {8}, words = "figures (1 or 2 are one number)")
    static void figuresOfNumbers() {
        reads("field 03 05;", 1);
        reads("field 3 3;thicket 00;thicket 07;", 3);
        reads("field 5 5;thicket 09;thicket 10;thicket 19;thicket 20;", 5);
        due("07 is 7", told(SMALL + "fox 01 07;").of(4, 1), 7);
        due("01 is 1", told(SMALL + "fox 01 07;").of(4, 0), 1);
        fault("field 33;", 6);
        fault("field 3 /3;", 8);
        fault("field 3 :3;", 8);
        fault("field 3 3:;", 9);
        fault("field 3 3/;", 9);
        fault("field 3 -3;", 8);
        faultAtBar("thicket |10;");
    }

    @Holds(promise = {8}, words = "; ; blanks (32) between.")
    static void blanksBetween() {
        reads("  field   3  3  ;  pass  ;  ", 2);
        reads("field 3 3;pass;", 2);
        reads("field3 3;thicket0;goose1 2;", 3);
        fault("field\u001f3 3;", 5);
        fault("field!3 3;", 5);
        fault("field\t3 3;", 5);
        fault("field 3\n3;", 7);
        fault("field 3 3<", 9);
        fault("field 3 3; \r", 11);
        fault("fi eld 3 3;", 0);
        fault("field 3 3;pas s;", 10);
        due("a blank parts numbers", readOf(new FoxGeese(), SMALL + "thicket 1 0;"), -30);
    }

    @Holds(promise = {8}, words = "FAULT: the place of the first byte of the first TOKEN that can not stand there")
    static void firstOfSeveralFaults() {
        fault("x y z", 0);
        fault("   x y z", 3);
        faultAtBar("goose |9 99;nothing;");
        faultAtBar("goose 0 |99;nothing;");
        faultAtBar("   |nothing 0;");
        faultAtBar("go |x;");
        fault("field  9 9;", 7);
        fault("field 3   9;", 10);
    }

    @Holds(promise = {8}, words = "(a word that is none,")
    static void wordThatIsNone() {
        for (String word : new String[] {"f", "fiel", "fields", "thicke", "thickets", "fo", "foxx", "goos", "gooses", "g",
                "goo", "goes", "mov", "moves", "pas", "passes", "a", "z"}) {
            fault(SMALL + word + " 0 0;", 10);
        }
        fault("fiel 3 3;", 0);
        fault("fields 3 3;", 0);
        faultAtBar("thicket |x;");
        faultAtBar("thicket |goose;");
    }

    @Holds(promise = {8}, words = "field again,")
    static void fieldAgain() {
        faultAtBar("|field 3 3;");
        faultAtBar("|field");
        faultAtBar("pass;|field 9 9;");
    }

    @Holds(promise = {8}, words = "anything ahead of it,")
    static void aheadOfField() {
        for (String item : new String[] {"thicket 0;", "fox 0 0;", "goose 0 0;", "go 7;", "move 0 0;", "pass;", ";", "3;"}) {
            fault(item + SMALL, 0);
            fault("  " + item + SMALL, 2);
        }
        reads("   " + SMALL, 1);
    }

    @Holds(promise = {8}, words = "a 5th goose,")
    static void fifthGoose() {
        String four = "goose 0 0;goose 0 1;goose 0 2;goose 0 3;";
        reads(SMALL + four, 5);
        faultAtBar(four + "|goose 0 4;");
        faultAtBar(four + "|goose 9 99;");
        faultAtBar(four + "|goose");
        faultAtBar("fox 2 7;goose 5 1;goose 0 0;goose 0 2;goose 0 6;move 0 4;go 1;|goose 0 8;");
    }

    @Holds(promise = {8, 11}, words = "pass that can not be, at the word,")
    static void passThatCanNotBe() {
        faultAtBar("goose 0 0;|pass;");
        faultAtBar("pass;|pass;");
        faultAtBar("fox 0 2;|pass;");
        faultAtBar("thicket 5;thicket 7;pass;|pass;");
        faultAtBar("goose 5 6;goose 5 3;goose 5 1;|pass;");
        faultAtBar("pass;|pass");
        reads(SMALL + "goose 5 6;goose 5 3;pass;", 4);
    }

    @Holds(promise = {8}, words = "a run of three figures or more (at its first one),")
    static void runsOfFigures() {
        fault("field 003 3;", 6);
        fault("field 3 003;", 8);
        fault("field 3 3333333333333333333333;", 8);
        faultAtBar("thicket |000;");
        faultAtBar("goose |000 0;");
        faultAtBar("goose 0 |001;");
        faultAtBar("fox 0 |0000;");
        faultAtBar("|000;");
        faultAtBar("goose 0 0;move |000 3;");
        faultAtBar("goose 0 0;move 0 |003;");
        faultAtBar("pass;go |007;");
        faultAtBar("pass|000;");
        fault("field 3 300", 8);
        reads("field 3 3;pass;go 07;", 3);
        // 2 to the 32 and 3: a number that is let grow would come around to 3
        fault("field 4294967299 3;", 6);
        faultAtBar("thicket |4294967296;");
    }

    @Holds(promise = {8}, words = "a number not as told,")
    static void numbersNotAsTold() {
        fault("field ;", 6);
        fault("field x 3;", 6);
        fault("field 3;", 7);
        fault("field 3 x;", 8);
        faultAtBar("thicket |;");
        faultAtBar("fox |;");
        faultAtBar("fox 0|;");
        faultAtBar("goose |x 0;");
        faultAtBar("goose 0 |;");
        faultAtBar("pass;go |;");
        faultAtBar("goose 0 0;move |;");
        faultAtBar("goose 0 0;move 0|;");
        faultAtBar("fox |6 0;");
        faultAtBar("goose |6 0;");
        faultAtBar("goose |99 0;");
    }

    @Holds(promise = {8}, words = "also a CELL on which somebody is, a THICKET is (thicket, goose; fox: but the FOX's own one),")
    static void cellsThatAreTaken() {
        faultAtBar("goose 0 0;thicket |0;");
        faultAtBar("thicket |8;");
        faultAtBar("thicket 0;thicket |0;");
        faultAtBar("goose 0 0;goose 0 |0;");
        faultAtBar("goose 0 |8;");
        faultAtBar("thicket 0;goose 0 |0;");
        faultAtBar("goose 0 0;fox 0 |0;");
        faultAtBar("thicket 0;fox 0 |0;");
        reads(SMALL + "fox 4 8;", 2);
        reads(SMALL + "fox 4 0;fox 1 0;", 3);
        reads(SMALL + "fox 4 0;goose 0 8;", 3);
        faultAtBar("fox 4 0;goose 0 |0;");
        reads(SMALL + "fox 2 7;goose 5 1;move 0 4;go 1;thicket 4;", 6);
        reads(SMALL + "goose 0 0;move 0 3;thicket 0;", 4);
    }

    @Holds(promise = {8, 10}, words = "a GOOSE that is not there yet, is EATEN (move),")
    static void geeseThatAreNotThere() {
        faultAtBar("move |0 0;");
        faultAtBar("goose 0 0;move |1 3;");
        faultAtBar("goose 0 0;goose 0 1;goose 0 2;goose 0 3;move |4 4;");
        faultAtBar("goose 0 0;move |99 3;");
        reads("field 4 4;fox 2 14;goose 5 6;goose 0 0;move 0 10;go 6;move 1 1;", 7);
        fault("field 4 4;fox 2 14;goose 5 6;goose 0 0;move 0 10;go 6;move 0 10;", 59);
        fault("field 4 4;fox 2 14;goose 5 6;goose 0 0;move 0 10;go 6;move 0 99;", 59);
    }

    @Holds(promise = {8, 9, 10}, words = "a STEP that can not be,")
    static void stepsThatCanNotBe() {
        faultAtBar("goose 0 0;move 0 |6;");
        faultAtBar("goose 0 0;move 0 |0;");
        faultAtBar("goose 0 0;goose 0 1;move 0 |1;");
        faultAtBar("goose 0 0;thicket 3;move 0 |3;");
        faultAtBar("goose 0 3;move 0 |0;");
        faultAtBar("goose 0 2;move 0 |3;");
        faultAtBar("pass;go |6;");
        faultAtBar("pass;go |8;");
        faultAtBar("thicket 7;pass;go |7;");
        faultAtBar("pass;go |4;");
        reads(SMALL + "fox 1 8;pass;go 4;", 4);
    }

    @Holds(promise = {8, 9, 10}, words = "not by TURN,")
    static void stepsNotByTurn() {
        faultAtBar("go |7;");
        faultAtBar("goose 0 0;move 0 3;move 0 |4;");
        faultAtBar("goose 0 0;move 0 3;go 7;go |6;");
        reads(SMALL + "goose 0 0;move 0 3;go 7;move 0 4;", 5);
    }

    @Holds(promise = {8, 9, 10}, words = "the GAME being DONE (at the CELL),")
    static void stepsInAGameThatIsDone() {
        faultAtBar("goose 0 0;fox 0 2;move 0 |3;");
        faultAtBar("pass;fox 0 2;go |5;");
        faultAtBar("fox 0 5;pass;go 2;go |5;");
        faultAtBar("thicket 5;thicket 7;pass;go |7;");
        faultAtBar("goose 0 0;fox 0 2;move |1 3;");
        reads(SMALL + "goose 0 0;fox 0 2;fox 0 8;move 0 3;", 5);
        reads(SMALL + "fox 0 2;thicket 4;goose 0 0;", 4);
    }

    @Holds(promise = {8}, words = "a byte that begins none, too)")
    static void bytesThatBeginNone() {
        for (int c = 0; c < 128; c++) {
            boolean begins = c == 32 || c == ';' || c >= '0' && c <= '9' || c >= 'a' && c <= 'z';
            if (begins) continue;
            fault("" + (char) c, 0);
            fault("field" + (char) c + " 3 3;", 5);
            fault(" " + (char) c + SMALL, 1);
            fault("field 3 3" + (char) c, 9);
            fault("field 3" + (char) c + "3;", 7);
            fault("field 3 3;" + (char) c, 10);
        }
    }

    @Holds(promise = {8}, words = "the TEXT's length, if it ends too early (an empty one, too).")
    static void textsThatEndTooEarly() {
        fault("", 0);
        fault(" ", 1);
        fault(" ".repeat(150), 150);
        fault("field", 5);
        fault("field ", 6);
        fault("field 3", 7);
        fault("field 3 ", 8);
        fault("field 3 3", 9);
        fault("field 3 3   ", 12);
        String[] items = {"thicket 0;", "fox 0 0;", "goose 0 0;", "pass;", "pass;go 7;", "goose 0 0;move 0 3;"};
        for (String item : items) {
            for (int cut = item.lastIndexOf(' ') + 1; cut < item.length(); cut++) {
                String text = SMALL + item.substring(0, cut);
                if (text.endsWith(" ") || cut == item.length() - 1) fault(text, text.length());
            }
        }
        fault("field 3 3;" + " ".repeat(135) + "goose", 150);
        reads("field 3 3;" + " ".repeat(140), 1);
    }

    @Holds(promise = {8}, words = "A FIELD that is read takes the place of all")
    static void readTakesThePlaceOfAll() {
        FoxGeese x = rich();
        x.luck(0);
        due("read", readOf(x, "field 4 3;"), 1);
        FoxGeese fresh = sized(4, 3);
        typeAll(fresh, "field 4 3;");
        due("as a new field", x.digest(), fresh.digest());
        due("geese come from 0 on", x.goose(0, 0), 0);
    }

    @Holds(promise = {8}, words = "all but IMAGES, THE TEXT, THE FRACTION, STATUS")
    static void readLeavesTheseFour() {
        FoxGeese x = rich();
        x.thicket(-1);
        x.goes(0);
        long above = x.part(0), below = x.part(1);
        x.image(0);
        long kept = x.digest();
        due("read", x.read(), 7);
        due("the fraction above", x.part(0), above);
        due("the fraction below", x.part(1), below);
        statuses("status", x, 1, 1, 0);
        due("the text, again", x.read(), 7);
        due("image 0", x.from(0), 1);
        due("as it was kept", x.digest(), kept);
        due("image 1", x.from(1), 1);
        due("its moves", x.count(5), 1);
    }

    @Holds(promise = {8, 12, 19, 20}, words = "(NOTES, MARKS none; nothing to undo).")
    static void readLeavesNoNotes() {
        FoxGeese x = rich();
        Due.holds("something of each", x.count(9) > 0 && x.count(10) > 0 && x.count(11) > 0);
        readOf(x, "field 4 4;fox 2 14;goose 5 6;goose 0 0;move 0 10;go 6;");
        due("notes", x.count(9), 0);
        due("marks", x.count(10), 0);
        due("that may be undone, though moves were told", x.count(11), 0);
        due("undo", x.undo(), NO);
        due("moves stay", x.count(5), 2);
    }

    @Holds(promise = {6}, words = "A byte (0 .. 127) comes behind THE TEXT: how many it has.")
    static void everyByte() {
        FoxGeese x = new FoxGeese();
        for (int c = 0; c <= 127; c++) due("type(" + c + ")", x.type(c), c + 1);
        due("bytes", x.count(12), 128);
        FoxGeese y = new FoxGeese();
        for (char c : "field 3 4;".toCharArray()) y.type(c);
        due("in the order they came", y.read(), 1);
        due("H", y.count(1), 4);
    }

    @Holds(promise = {6}, words = "BAD; FULL.")
    static void bytesOutside() {
        for (int c : new int[] {-1, 128, 255, 256 + 59, Integer.MIN_VALUE, Integer.MAX_VALUE}) {
            refused("type(" + c + ")", Edges::rich, x -> x.type(c), BAD);
            refused("BAD ahead of FULL: type(" + c + ")", EdgesTextTest::full, x -> x.type(c), BAD);
        }
    }

    @Holds(promise = {6}, words = "FULL.")
    static void textThatIsFull() {
        FoxGeese x = new FoxGeese();
        for (int k = 1; k <= 149; k++) x.type(32);
        due("the last byte", x.type(32), 150);
        for (int c : new int[] {0, 32, 59, 127}) refused("one more", EdgesTextTest::full, f -> f.type(c), FULL);
        FoxGeese y = full();
        y.clear();
        due("room again", y.type(59), 1);
    }

    @Holds(promise = {7}, words = "THE TEXT is empty: how many it had.")
    static void clearTellsHowMany() {
        FoxGeese x = new FoxGeese();
        due("empty", x.clear(), 0);
        x.type(65);
        due("one", x.clear(), 1);
        due("empty then", x.clear(), 0);
        due("count(12)", x.count(12), 0);
        FoxGeese y = full();
        due("full", y.clear(), 150);
        due("nothing is left of it", y.read(), -10);
        typeAll(y, "field 3 3");
        due("nor of what stood behind", y.read(), -19);
        statuses("no refusal", y, 0, 0, 0);
    }

    @Holds(promise = {8}, words = "THE FIELD is read: how many ITEMS.")
    static void readTellsHowManyItems() {
        String text = SMALL;
        for (int n = 1; n <= 20; n++) {
            reads(text, n);
            text += n % 2 == 1 ? "pass;" : n % 4 == 0 ? "go 8;" : "go 7;";
        }
    }

    @Holds(promise = {8}, words = "-10 less the FAULT: all stays.")
    static void readTellsTheFault() {
        fault("", 0);
        fault("x", 0);
        fault(" x", 1);
        fault(" ".repeat(149) + "x", 149);
        fault(" ".repeat(150), 150);
        fault(SMALL + " ".repeat(139) + ";", 149);
        fault("field 4 4;thicket 0;fox 3 7;goose 1 1;move 0 5;go 6;nonsense", 52);
    }

    public static void main(String[] args) throws ReflectiveOperationException {
        run(EdgesTextTest.class);
    }
}
