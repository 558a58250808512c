import java.math.BigInteger;
import java.util.function.ToLongFunction;

/** The edges that the document names for what there is, images, and what was refused: promises 27 to 32. */
public final class EdgesKeptTest extends Edges {

    @Holds(promise = {1, 27}, words = "THE FRACTION is 0 by 1 at first;")
    static void fractionAtFirst() {
        due("above", new FoxGeese().part(0), 0);
        due("below", new FoxGeese().part(1), 1);
    }

    @Holds(promise = {18, 27}, words = "lowest terms, below above 0.")
    static void fractionInLowestTerms() {
        FoxGeese two = told("field 3 3;fox 1 3;thicket 4;thicket 7;pass;");
        // of 0, 1, 6: two are home
        two.luck(1);
        due("2 of 3 above", two.part(0), 2);
        due("2 of 3 below", two.part(1), 3);
        FoxGeese half = told("field 3 3;fox 1 3;thicket 4;pass;");
        // of 0, 1, 6, 7: two are home
        half.luck(1);
        due("2 of 4 above", half.part(0), 1);
        due("2 of 4 below", half.part(1), 2);
        for (int kind = 0; kind < 6; kind++) {
            for (int c = 0; c < 25; c++) {
                FoxGeese x = new FoxGeese();
                x.fox(kind, c);
                for (int n = 0; n <= 4; n++) {
                    x.luck(n);
                    long divisor = BigInteger.valueOf(x.part(0)).gcd(BigInteger.valueOf(x.part(1))).longValue();
                    due("what divides both", divisor, 1);
                    Due.holds("0 .. 1", x.part(0) >= 0 && x.part(1) > 0 && x.part(0) <= x.part(1));
                }
            }
        }
    }

    @Holds(promise = {27}, words = "THE FRACTION: above (0), below (1). BAD.")
    static void partOutside() {
        FoxGeese x = told("field 3 3;fox 1 4;");
        x.luck(1);
        due("above", x.part(0), 3);
        due("below", x.part(1), 8);
        for (int what : new int[] {-1, 2, Integer.MIN_VALUE, Integer.MAX_VALUE}) {
            refused("part(" + what + ")", Edges::rich, f -> f.part(what), BAD);
        }
    }

    @Holds(promise = {28, 29}, words = "IMAGES 0, 1 keep all but them, THE TEXT, THE FRACTION and STATUS;")
    static void imagesKeepAll() {
        for (int i = 0; i < 2; i++) {
            FoxGeese x = rich();
            long kept = x.digest();
            due("image", x.image(i), 1);
            x.goes(8);
            x.forget(0);
            x.forget(1);
            for (int n = 0; n < 4; n++) {
                x.note(-1, -2, 50 + n, n % 2, 0);
                x.mark(2, -2, 1, 60 + n, 0);
            }
            x.thicket(24);
            x.goose(0, 22);
            x.fox(5, 23);
            due("from", x.from(i), 1);
            due("all as it was", x.digest(), kept);
            x.field(3, 3);
            due("from, another size", x.from(i), 1);
            due("all as it was", x.digest(), kept);
        }
    }

    @Holds(promise = {28, 29}, words = "keep all but them, THE TEXT, THE FRACTION and STATUS;")
    static void imagesDoNotKeepTheseFour() {
        FoxGeese x = told("field 3 3;fox 1 4;");
        x.luck(1);
        x.image(0);
        x.goes(0);
        x.luck(0);
        typeAll(x, "field 4 4;");
        x.image(1);
        x.field(5, 5);
        due("from(0)", x.from(0), 1);
        due("the fraction stays", x.part(1), 1);
        due("status stays", x.status(1), 1);
        due("the text's length stays", x.count(12), 10);
        due("the text stays", x.read(), 1);
        due("image 1 was kept later, and is there", x.from(1), 1);
        due("W", x.count(0), 3);
    }

    @Holds(promise = {12, 28, 29}, words = "what may be undone they keep; it goes on from one.")
    static void imagesKeepWhatMayBeUndone() {
        FoxGeese x = afterMoves(12);
        x.image(0);
        x.thicket(0);
        due("nothing to undo", x.undo(), NO);
        x.from(0);
        due("eight again", x.count(11), 8);
        for (int m = 11; m >= 4; m--) due("undo", x.undo(), m);
        due("no more", x.undo(), NO);
        x.from(0);
        due("the image still has them", x.undo(), 11);
        for (int m = 11; m >= 4; m--) x.undo();
        for (int m = 4; m < 12; m++) {
            if (m % 2 == 0) x.passes();
            else x.goes(m % 4 == 1 ? 19 : 18);
        }
        due("other moves were done since", x.undo(), 11);
        x.from(0);
        for (int m = 11; m >= 4; m--) {
            due("undo", x.undo(), m);
            due("her cell then", x.of(4, 1), afterMoves(m).of(4, 1));
        }
        FoxGeese y = new FoxGeese();
        y.image(1);
        y.passes();
        y.from(1);
        due("none were kept", y.undo(), NO);
        due("it goes on", y.passes(), 1);
        due("and what is done then may be undone", y.undo(), 0);
    }

    @Holds(promise = {28}, words = "An IMAGE is kept: 1. BAD.")
    static void imageOutside() {
        due("image(0)", rich().image(0), 1);
        due("image(1)", rich().image(1), 1);
        for (int i : new int[] {-1, 2, Integer.MIN_VALUE, Integer.MAX_VALUE}) {
            refused("image(" + i + ")", Edges::rich, x -> x.image(i), BAD);
        }
        FoxGeese x = afterMoves(1);
        x.image(0);
        x.goes(19);
        x.image(1);
        x.passes();
        x.image(0);
        x.from(1);
        due("the other one stays", x.count(5), 2);
        x.from(0);
        due("the later takes the earlier one's place", x.count(5), 3);
        x.goes(18);
        x.from(0);
        due("what is done then does not change it", x.count(5), 3);
    }

    @Holds(promise = {29}, words = "It goes on from an IMAGE: 1. BAD;")
    static void fromOutside() {
        for (int i : new int[] {-1, 2, Integer.MIN_VALUE, Integer.MAX_VALUE}) {
            refused("from(" + i + ")", Edges::rich, x -> x.from(i), BAD);
            refused("from(" + i + "), none kept", FoxGeese::new, x -> x.from(i), BAD);
        }
        due("from(1)", rich().from(1), 1);
    }

    @Holds(promise = {29}, words = "NO: none was kept.")
    static void fromNone() {
        refused("from(0), 1 being kept", Edges::rich, x -> x.from(0), NO);
        refused("from(0)", FoxGeese::new, x -> x.from(0), NO);
        refused("from(1)", FoxGeese::new, x -> x.from(1), NO);
        FoxGeese x = new FoxGeese();
        x.image(0);
        due("from(1), 0 being kept", x.from(1), NO);
        x.image(2);
        due("from(1), a refused one", x.from(1), NO);
        due("from(0)", x.from(0), 1);
    }

    @Holds(promise = {30}, words = "STATUS: how many calls were refused as BAD, NO, FULL")
    static void statusOfEachReason() {
        FoxGeese x = told("field 3 3;goose 0 0;goose 0 1;goose 0 2;goose 0 3;");
        statuses("at first", x, 0, 0, 0);
        for (int n = 1; n <= 100; n++) {
            x.thicket(-1);
            if (n <= 60) x.thicket(8);
            if (n <= 30) x.goose(0, 4);
            if (n == 1) statuses("one of each", x, 1, 1, 1);
        }
        statuses("many", x, 100, 60, 30);
        x.field(5, 5);
        statuses("a field anew", x, 100, 60, 30);
    }

    private static int refusals = 0;

    private static void countsAs(String what, FoxGeese x, int reason, ToLongFunction<FoxGeese> call) {
        int[] before = {x.status(0), x.status(1), x.status(2)};
        due(what, call.applyAsLong(x), reason);
        for (int k = 0; k < 3; k++) due(what + ": status(" + k + ")", x.status(k), before[k] + (BAD - reason == k ? 1 : 0));
        refusals++;
    }

    @Holds(promise = {2, 3, 4, 5, 6, 9, 10, 13, 14, 15, 16, 18, 19, 20, 21, 24, 25, 26, 27, 28, 29, 30, 31},
        words = "(each answer told so below is such a one).")
    static void everyBadCounts() {
        FoxGeese x = rich();
        countsAs("field", x, BAD, f -> f.field(2, 3));
        countsAs("thicket", x, BAD, f -> f.thicket(25));
        countsAs("fox", x, BAD, f -> f.fox(6, 0));
        countsAs("goose", x, BAD, f -> f.goose(6, 0));
        countsAs("type", x, BAD, f -> f.type(128));
        countsAs("goes", x, BAD, f -> f.goes(25));
        countsAs("moves", x, BAD, f -> f.moves(3, 0));
        countsAs("moves, eaten", x, BAD, f -> f.moves(0, 0));
        countsAs("of", x, BAD, f -> f.of(5, 0));
        countsAs("can", x, BAD, f -> f.can(5));
        countsAs("can, eaten", x, BAD, f -> f.can(0));
        countsAs("worth", x, BAD, f -> f.worth(5));
        countsAs("best", x, BAD, f -> f.best(0));
        countsAs("luck", x, BAD, f -> f.luck(5));
        countsAs("note", x, BAD, f -> f.note(3, 0, 0, 0, 0));
        countsAs("mark", x, BAD, f -> f.mark(3, 0, 0, 0, 0));
        countsAs("forget", x, BAD, f -> f.forget(2));
        countsAs("kinds", x, BAD, f -> f.kinds(3));
        countsAs("ask", x, BAD, f -> f.ask(3));
        countsAs("evenings", x, BAD, f -> f.evenings(0, 61));
        countsAs("part", x, BAD, f -> f.part(2));
        countsAs("image", x, BAD, f -> f.image(2));
        countsAs("from", x, BAD, f -> f.from(2));
        countsAs("count", x, BAD, f -> f.count(13));
        due("so many", refusals, 24);
        due("so many", x.status(0), 24);
    }

    @Holds(promise = {3, 4, 5, 6, 9, 10, 11, 12, 19, 20, 29, 30}, words = "(each answer told so below is such a one).")
    static void everyNoAndFullCounts() {
        FoxGeese x = rich();
        countsAs("thicket", x, NO, f -> f.thicket(4));
        countsAs("fox", x, NO, f -> f.fox(0, 4));
        countsAs("goose", x, NO, f -> f.goose(0, 4));
        countsAs("goes", x, NO, f -> f.goes(24));
        countsAs("moves", x, NO, f -> f.moves(1, 6));
        countsAs("passes", x, NO, FoxGeese::passes);
        countsAs("from", x, NO, f -> f.from(0));
        x.goose(0, 24);
        countsAs("undo", x, NO, FoxGeese::undo);
        countsAs("goose", x, FULL, f -> f.goose(0, 23));
        for (int n = x.count(12); n < 150; n++) x.type(32);
        countsAs("type", x, FULL, f -> f.type(32));
        for (int n = x.count(9); n < 6; n++) x.note(0, 1, 0, 0, 1);
        countsAs("note", x, FULL, f -> f.note(0, 1, 0, 0, 1));
        for (int n = x.count(10); n < 6; n++) x.mark(0, 0, 1, 0, 1);
        countsAs("mark", x, FULL, f -> f.mark(0, 0, 1, 0, 1));
        statuses("all", x, 0, 8, 4);
    }

    @Holds(promise = {30}, words = "STATUS: how many calls were refused")
    static void otherAnswersAreNoRefusals() {
        FoxGeese x = told("field 3 3;thicket 5;thicket 7;goose 0 0;goose 0 1;");
        x.note(0, 0, 0, 0, 1);
        x.mark(0, 0, 0, 0, 1);
        due("few", x.few(), NONE);
        due("look", x.look(), NONE);
        due("ask", x.ask(0), NONE);
        x.type(33);
        due("read", x.read(), -10 - x.count(12) + 1);
        FoxGeese y = told("field 3 3;fox 0 0;");
        due("best", y.best(1), NONE);
        due("of an eaten one", rich().of(0, 1), NONE);
        statuses("none", x, 0, 0, 0);
        statuses("none", y, 0, 0, 0);
    }

    @Holds(promise = {2, 3, 4, 5, 6, 9, 10, 19, 20}, words = "Refused, changing nothing but STATUS, the first of: BAD -2 a number is not as told; NO -3 as told; FULL -4")
    static void theFirstOfTheReasons() {
        due("BAD", FoxGeese.BAD, -2);
        due("NO", FoxGeese.NO, -3);
        due("FULL", FoxGeese.FULL, -4);
        due("NONE", FoxGeese.NONE, -1);
        FoxGeese x = told("field 3 3;goose 0 0;goose 0 1;goose 0 2;goose 0 3;");
        countsAs("BAD, not NO nor FULL", x, BAD, f -> f.goose(6, 3));
        countsAs("BAD, not FULL", x, BAD, f -> f.goose(0, 9));
        countsAs("NO, not FULL", x, NO, f -> f.goose(0, 3));
        countsAs("NO, not FULL: the fox", x, NO, f -> f.goose(0, 8));
        countsAs("FULL", x, FULL, f -> f.goose(0, 4));
        countsAs("BAD, not NO", x, BAD, f -> f.fox(6, 3));
        countsAs("BAD, not NO", x, BAD, f -> f.goes(9));
        countsAs("NO", x, NO, f -> f.goes(7));
        countsAs("BAD, not NO: a cell", x, BAD, f -> f.moves(0, 9));
        countsAs("BAD, not NO: a goose", x, BAD, f -> f.moves(4, 4));
    }

    @Holds(promise = {30}, words = "(where others are told they count as these).")
    static void minusOneCountsAsBad() {
        FoxGeese x = new FoxGeese();
        due("status(3)", x.status(3), -1);
        statuses("counted", x, 1, 0, 0);
    }

    @Holds(promise = {30}, words = "STATUS: BAD (0), NO (1), FULL (2). -1: another what (counts as BAD).")
    static void statusOutside() {
        int bad = 0;
        FoxGeese x = new FoxGeese();
        for (int what : new int[] {-1, 3, Integer.MIN_VALUE, Integer.MAX_VALUE}) {
            due("status(" + what + ")", x.status(what), -1);
            bad++;
            statuses("counted", x, bad, 0, 0);
            int w = what;
            FoxGeese y = rich();
            y.status(w);
            Due.holds("all else stays", tale(y).equals(tale(rich())));
        }
    }

    @Holds(promise = {31}, words = "How many: 0 W, 1 H, 2 GEESE, 3 EATEN, 4 TURN, 5 MOVES, 6 OPEN, 7 how it is (0 not DONE, 1 CAUGHT, 2 HOME), "
        + "8 THICKETS, 9 NOTES, 10 MARKS, 11 that may be undone, 12 bytes of THE TEXT.")
    static void countsOfEach() {
        counts("least", told("field 3 4;"), 3, 4, 0, 0, 0, 0, 2, 0, 0, 0, 0, 0, 10);
        counts("rich", rich(), 5, 5, 3, 1, 1, 3, 3, 0, 2, 2, 1, 3, rich().clear());
        due("not done", told("field 3 3;").count(7), 0);
        due("caught", told("field 3 3;thicket 5;thicket 7;pass;").count(7), 1);
        due("home", told("field 3 3;fox 0 0;").count(7), 2);
    }

    @Holds(promise = {31}, words = "12 bytes of THE TEXT. BAD.")
    static void countOutside() {
        for (int what : new int[] {-1, 13, Integer.MIN_VALUE, Integer.MAX_VALUE}) {
            refused("count(" + what + ")", Edges::rich, x -> x.count(what), BAD);
        }
        due("count(0)", rich().count(0), 5);
        FoxGeese x = new FoxGeese();
        for (int k = 0; k < 150; k++) x.type(32);
        due("count(12)", x.count(12), 150);
    }

    /** By numbers without end, cut to 64 bits at the last. */
    private static long digestOf(long... all) {
        BigInteger h = BigInteger.valueOf(1847);
        for (long v : all) h = h.multiply(BigInteger.valueOf(31)).add(BigInteger.valueOf(v));
        return h.longValue();
    }

    @Holds(promise = {32}, words = "h = 1847; then h = 31 h + v for each v: count(0) to count(12); THICKETS as bits; the FOX's KIND, CELL;")
    static void digestWithNobody() {
        due("new", new FoxGeese().digest(), digestOf(5, 5, 0, 0, 0, 0, 2, 0, 0, 0, 0, 0, 0, 0, 0, 24, 0, 1));
        FoxGeese x = told("field 3 5;fox 3 4;thicket 0;thicket 14;pass;");
        due("thickets", x.digest(), digestOf(3, 5, 0, 0, 1, 1, 2, 0, 2, 0, 0, 0, 44, 1 + (1 << 14), 3, 4, 0, 1));
        FoxGeese full = new FoxGeese();
        for (int c = 0; c < 24; c++) full.thicket(c);
        due("full of thickets", full.digest(), digestOf(5, 5, 0, 0, 0, 0, 0, 0, 24, 0, 0, 0, 0, (1 << 24) - 1, 0, 24, 0, 1));
    }

    @Holds(promise = {32}, words = "of GEESE KIND, CELL (-1: EATEN); of NOTES dx, dy, m, over, may; of MARKS i, dx, dy, m, may; THE FRACTION.")
    static void digestOfAll() {
        FoxGeese x = told("field 5 5;fox 2 17;goose 5 7;goose 3 0;goose 1 2;goose 4 9;");
        x.moves(0, 12);
        x.goes(7);
        for (int k = 0; k < 6; k++) {
            x.note(k % 5 - 2, 2 - k % 5, 99 - k, k % 2, 1 - k % 2);
            x.mark(k % 4, 2 - k % 5, k % 5 - 2, 94 + k, k % 2);
        }
        x.luck(2);
        long above = x.part(0), below = x.part(1);
        due("all", x.digest(), digestOf(5, 5, 4, 1, 0, 2, x.count(6), 0, 0, 6, 6, 2, x.count(12), 0, 2, 7,
            5, -1, 3, 0, 1, 2, 4, 9,
            -2, 2, 99, 0, 1, -1, 1, 98, 1, 0, 0, 0, 97, 0, 1, 1, -1, 96, 1, 0, 2, -2, 95, 0, 1, -2, 2, 94, 1, 0,
            0, 2, -2, 94, 0, 1, 1, -1, 95, 1, 2, 0, 0, 96, 0, 3, -1, 1, 97, 1, 0, -2, 2, 98, 0, 1, 2, -2, 99, 1,
            above, below));
        Due.holds("a fraction of its own", below > 1);
        x.status(9);
        x.image(0);
        long before = x.digest();
        x.goes(0);
        due("neither status nor images are in it", x.digest(), before);
    }

    public static void main(String[] args) throws ReflectiveOperationException {
        run(EdgesKeptTest.class);
    }
}
