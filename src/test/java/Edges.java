import java.lang.reflect.InvocationTargetException;
import java.lang.reflect.Method;
import java.util.ArrayList;
import java.util.Arrays;
import java.util.Comparator;
import java.util.List;
import java.util.function.Supplier;
import java.util.function.ToLongFunction;

/** What the tests of the document's edges share: who runs them, fields told by texts, and what a refusal leaves. */
abstract class Edges {
    static final int NONE = -1, BAD = -2, NO = -3, FULL = -4;

    /** Far outside of all that is told. */
    static final int[] FAR = {Integer.MIN_VALUE, -1000, 1000, Integer.MAX_VALUE};

    static void run(Class<? extends Edges> tests) throws ReflectiveOperationException {
        for (Method test : testsOf(tests)) {
            Holds holds = test.getAnnotation(Holds.class);
            Due.about(test.getName() + ", promise " + Arrays.toString(holds.promise()) + " '" + holds.words() + "': ");
            int before = Due.asked();
            try {
                test.invoke(null);
            } catch (InvocationTargetException e) {
                Due.holds("ends without " + e.getCause(), false);
            }
            Due.holds("asks something", Due.asked() > before);
        }
        Due.about("");
        Due.end();
    }

    /** The tests of a class, by name. */
    static List<Method> testsOf(Class<? extends Edges> tests) {
        List<Method> found = new ArrayList<>();
        for (Method m : tests.getDeclaredMethods()) if (m.isAnnotationPresent(Holds.class)) found.add(m);
        found.sort(Comparator.comparing(Method::getName));
        return found;
    }

    static void due(String what, long got, long want) { Due.due(what, got, want); }

    static int bits(int... cells) {
        int b = 0;
        for (int c : cells) b |= 1 << c;
        return b;
    }

    static void typeAll(FoxGeese x, String text) {
        x.clear();
        for (char c : text.toCharArray()) x.type(c);
    }

    static int readOf(FoxGeese x, String text) {
        typeAll(x, text);
        return x.read();
    }

    static FoxGeese told(String text) {
        FoxGeese x = new FoxGeese();
        int items = readOf(x, text);
        if (items < 0) due("told '" + text + "'", items, 0);
        return x;
    }

    static FoxGeese sized(int w, int h) {
        FoxGeese x = new FoxGeese();
        x.field(w, h);
        return x;
    }

    static void counts(String what, FoxGeese x, long... wants) {
        for (int k = 0; k < wants.length; k++) due(what + " count(" + k + ")", x.count(k), wants[k]);
    }

    static void statuses(String what, FoxGeese x, int bad, int no, int full) {
        due(what + " status(0)", x.status(0), bad);
        due(what + " status(1)", x.status(1), no);
        due(what + " status(2)", x.status(2), full);
    }

    /** A new object on which this many moves were done: the geese, there being none, pass, she goes to and fro. */
    static FoxGeese afterMoves(int m) {
        FoxGeese x = new FoxGeese();
        for (int k = 0; k < m; k++) {
            if (k % 2 == 0) x.passes();
            else x.goes(k % 4 == 1 ? 23 : 24);
        }
        return x;
    }

    /** The fox's turn in move 3, and something of all that can be kept: goose 0 is eaten, image 0 was never kept. */
    static FoxGeese rich() {
        FoxGeese x = told("field 5 5;thicket 4;thicket 20;fox 2 17;goose 5 7;goose 3 0;goose 1 2;");
        x.moves(0, 12);
        x.note(0, 1, 0, 0, 1);
        x.image(1);
        x.goes(7);
        x.moves(1, 5);
        x.note(2, 0, 1, 1, 1);
        x.mark(1, 0, -1, 3, 1);
        x.luck(3);
        return x;
    }

    /** The call answers so, counts as no refusal, and all goes on as if it had not been. */
    static void leaves(String what, Supplier<FoxGeese> make, ToLongFunction<FoxGeese> call, long answer) {
        compare(what, make, call, answer, 0);
    }

    /** The call is refused for this reason, counts there alone, and all else goes on as if it had not been. */
    static void refused(String what, Supplier<FoxGeese> make, ToLongFunction<FoxGeese> call, int reason) {
        compare(what, make, call, reason, reason);
    }

    static void compare(String what, Supplier<FoxGeese> make, ToLongFunction<FoxGeese> call, long answer, int reason) {
        FoxGeese x = make.get();
        FoxGeese untouched = make.get();
        due(what, call.applyAsLong(x), answer);
        for (int k = 0; k < 3; k++) {
            due(what + ": status(" + k + ")", x.status(k), untouched.status(k) + (k == BAD - reason ? 1 : 0));
        }
        Due.holds(what + " leaves all as it was", tale(x).equals(tale(untouched)));
    }

    /** All that calls can tell of an object but its status, what may be undone, the images and the text among it. */
    static List<Long> tale(FoxGeese x) {
        List<Long> told = new ArrayList<>();
        tellGame(x, told);
        for (int i = 0; i < 2; i++) {
            told.add((long) x.from(i));
            tellGame(x, told);
        }
        told.add((long) x.read());
        tellGame(x, told);
        told.add((long) x.clear());
        return told;
    }

    private static void tellGame(FoxGeese x, List<Long> told) {
        told.add(x.digest());
        for (int i = 0; i <= 4; i++) {
            told.add((long) x.of(i, 0));
            told.add((long) x.of(i, 1));
            told.add((long) x.can(i));
        }
        for (int k = 0; k < 9; k++) {
            told.add((long) x.undo());
            told.add(x.digest());
        }
    }
}
