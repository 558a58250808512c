/** Fox and geese on a small field, as ../shared/DOC.md promises it; nothing is made after the constructor. */
public final class FoxGeese {
    public static final int NONE = -1, BAD = -2, NO = -3, FULL = -4;

    private static final int FOX = 4, GEESE_TURN = 0, FOX_TURN = 1;
    private static final int GOING = 0, CAUGHT = 1, HOME = 2;
    private static final int LEAST_SIDE = 3, MOST_SIDE = 5, MOST_CELLS = 25, MOST_GEESE = 4, KINDS = 6;
    private static final int MOST_MOVES = 9999, MOST_AHEAD = 4, MOST_UNDO = 8, UNDO_ROW = 7;
    private static final int MOST_TOLD = 6, TOLD_ROW = 5, MOST_TOLD_MOVE = 99;
    private static final int LOOK_CODES = 2000, LOOK_MOVES = 6, ASK_CODES = 500;
    private static final int MOST_BYTES = 150, MOST_BYTE = 127, COUNTS = 13, IMAGES = 2, FARTHEST = 2;
    private static final int WORTH_HOME = 99, ABOVE_WORTH = 100, BELOW_WORTH = -1, MOST_STEPS_HOME = 50;
    private static final int MOST_SEED = 999999, MOST_EVENING = 60;

    /** She has 8 steps at most at a time, and 1 to 8 all divide this: shares of chances stay whole numbers. */
    private static final long SHARES = 840;

    private final Game game = new Game();
    private final Game[] images = new Game[IMAGES];
    private final boolean[] imageKept = new boolean[IMAGES];
    private final Reader reader = new Reader();
    private final Board[] trials = new Board[MOST_AHEAD];
    private final int[] bestMoves = new int[MOST_AHEAD + 1];
    private final int[] refused = new int[3];
    private long above = 0;
    private long below = 1;

    public FoxGeese() {
        for (int i = 0; i < images.length; i++) {
            images[i] = new Game();
        }
        for (int i = 0; i < trials.length; i++) {
            trials[i] = new Board();
        }
    }

    // ---- a field

    public int field(int w, int h) {
        if (!isSide(w) || !isSide(h)) {
            return refuse(BAD);
        }
        int before = game.board.geese;
        game.begin(w, h);
        return before;
    }

    public int thicket(int c) {
        Board board = game.board;
        if (!board.hasCell(c)) {
            return refuse(BAD);
        }
        if (!board.isFree(c)) {
            return refuse(NO);
        }
        game.plant(c);
        return Integer.bitCount(board.thickets);
    }

    public int fox(int kind, int c) {
        Board board = game.board;
        if (!isKind(kind) || !board.hasCell(c)) {
            return refuse(BAD);
        }
        if (!board.isFreeForFox(c)) {
            return refuse(NO);
        }
        int before = board.foxKind;
        game.putFox(kind, c);
        return before;
    }

    public int goose(int kind, int c) {
        Board board = game.board;
        if (!isKind(kind) || !board.hasCell(c)) {
            return refuse(BAD);
        }
        if (!board.isFree(c)) {
            return refuse(NO);
        }
        if (board.geese >= MOST_GEESE) {
            return refuse(FULL);
        }
        game.addGoose(kind, c);
        return board.geese - 1;
    }

    public int type(int c) {
        if (!isWithin(c, 0, MOST_BYTE)) {
            return refuse(BAD);
        }
        return reader.addByte(c) ? reader.length : refuse(FULL);
    }

    public int clear() {
        int before = reader.length;
        reader.length = 0;
        return before;
    }

    public int read() {
        int items = reader.readText();
        if (items > 0) {
            game.copyFrom(reader.told);
        }
        return items;
    }

    // ---- moves

    public int goes(int c) {
        if (!game.board.hasCell(c)) {
            return refuse(BAD);
        }
        if (!game.board.mayMove(FOX, c)) {
            return refuse(NO);
        }
        game.remember();
        return game.board.step(FOX, c) ? 1 : 0;
    }

    public int moves(int i, int c) {
        Board board = game.board;
        if (!board.isGooseAlive(i) || !board.hasCell(c)) {
            return refuse(BAD);
        }
        if (!board.mayMove(i, c)) {
            return refuse(NO);
        }
        int before = board.cellOf(i);
        game.remember();
        board.step(i, c);
        return before;
    }

    public int passes() {
        if (!game.board.mayPass()) {
            return refuse(NO);
        }
        game.remember();
        game.board.endMove();
        return game.board.movesDone;
    }

    public int undo() {
        return game.takeBack() ? game.board.movesDone : refuse(NO);
    }

    public int of(int i, int what) {
        Board board = game.board;
        if (i != FOX && !board.isGoose(i) || !isWithin(what, 0, 1)) {
            return refuse(BAD);
        }
        return what == 0 ? board.kindOf(i) : board.cellOf(i);
    }

    // ---- what is best

    public int can(int i) {
        if (i != FOX && !game.board.isGooseAlive(i)) {
            return refuse(BAD);
        }
        return game.board.reach(i);
    }

    public int worth(int n) {
        if (!isWithin(n, 0, MOST_AHEAD)) {
            return refuse(BAD);
        }
        return worthBehind(trials, bestMoves, game.board, n, BELOW_WORTH, ABOVE_WORTH);
    }

    public int best(int n) {
        if (!isWithin(n, 1, MOST_AHEAD)) {
            return refuse(BAD);
        }
        bestMoves[n] = NONE;
        worthBehind(trials, bestMoves, game.board, n, BELOW_WORTH, ABOVE_WORTH);
        return bestMoves[n];
    }

    public int few() {
        Board board = game.board;
        int home = (1 << board.width) - 1;
        int layer = 1 << board.foxCell;
        for (int steps = 0; steps <= MOST_STEPS_HOME; steps++) {
            if ((layer & home) != 0) {
                return steps;
            }
            layer = board.walkOn(layer, board.movesDone + steps);
        }
        return NONE;
    }

    public int luck(int n) {
        if (!isWithin(n, 0, MOST_AHEAD)) {
            return refuse(BAD);
        }
        keepFraction(homeShares(trials, game.board, n), power(SHARES, n));
        return 1;
    }

    // ---- who it is

    public int note(int dx, int dy, int m, int over, int may) {
        if (!isToldStep(dx, dy, m, may) || !isWithin(over, 0, 1)) {
            return refuse(BAD);
        }
        return game.notes.add(dx, dy, m, over, may) ? game.notes.size : refuse(FULL);
    }

    public int mark(int i, int dx, int dy, int m, int may) {
        if (!game.board.isGoose(i) || !isToldStep(dx, dy, m, may)) {
            return refuse(BAD);
        }
        return game.marks.add(i, dx, dy, m, may) ? game.marks.size : refuse(FULL);
    }

    public int forget(int what) {
        if (!isWithin(what, 0, 1)) {
            return refuse(BAD);
        }
        Told told = what == 0 ? game.notes : game.marks;
        int before = told.size;
        told.size = 0;
        return before;
    }

    public int is() {
        return foxKinds();
    }

    public int look() {
        return evenestStep(foxKinds(), true);
    }

    public int kinds(int i) {
        return game.board.isGoose(i) ? gooseKinds(i) : refuse(BAD);
    }

    public int ask(int i) {
        return game.board.isGoose(i) ? evenestStep(gooseKinds(i), false) : refuse(BAD);
    }

    public int evenings(int seed, int n) {
        if (!isWithin(seed, 0, MOST_SEED) || !isWithin(n, 0, MOST_EVENING)) {
            return refuse(BAD);
        }
        Board evening = trials[0];
        evening.copyFrom(game.board);
        long x = seed;
        for (int k = 0; k < n && evening.outcome() == GOING; k++) {
            x = (x * 1103515245L + 12345L) % 2147483648L;
            playNumber(evening, x / 65536L);
        }
        return evening.outcome();
    }

    // ---- what there is

    public long part(int what) {
        if (!isWithin(what, 0, 1)) {
            return refuse(BAD);
        }
        return what == 0 ? above : below;
    }

    public int image(int i) {
        if (!isWithin(i, 0, IMAGES - 1)) {
            return refuse(BAD);
        }
        images[i].copyFrom(game);
        imageKept[i] = true;
        return 1;
    }

    public int from(int i) {
        if (!isWithin(i, 0, IMAGES - 1)) {
            return refuse(BAD);
        }
        if (!imageKept[i]) {
            return refuse(NO);
        }
        game.copyFrom(images[i]);
        return 1;
    }

    public int status(int what) {
        if (!isWithin(what, 0, refused.length - 1)) {
            refuse(BAD);
            return NONE;
        }
        return refused[what];
    }

    public int count(int what) {
        return isWithin(what, 0, COUNTS - 1) ? howMany(what) : refuse(BAD);
    }

    public long digest() {
        Board board = game.board;
        long h = 1847;
        for (int what = 0; what < COUNTS; what++) {
            h = 31 * h + howMany(what);
        }
        h = 31 * h + board.thickets;
        h = 31 * h + board.foxKind;
        h = 31 * h + board.foxCell;
        for (int i = 0; i < board.geese; i++) {
            h = 31 * h + board.kindOf(i);
            h = 31 * h + board.cellOf(i);
        }
        h = game.marks.digestFrom(game.notes.digestFrom(h));
        h = 31 * h + above;
        return 31 * h + below;
    }

    // ---- what the calls above are made of

    /** Counts a refusal under its reason and answers the reason. */
    private int refuse(int reason) {
        int at = BAD - reason;
        if (at >= 0 && at < refused.length) {
            refused[at]++;
        }
        return reason;
    }

    private static boolean isWithin(int number, int least, int most) {
        return number >= least && number <= most;
    }

    private static boolean isSide(int side) {
        return isWithin(side, LEAST_SIDE, MOST_SIDE);
    }

    private static boolean isKind(int kind) {
        return isWithin(kind, 0, KINDS - 1);
    }

    private static boolean isToldStep(int dx, int dy, int m, int may) {
        return isWithin(dx, -FARTHEST, FARTHEST) && isWithin(dy, -FARTHEST, FARTHEST)
                && isWithin(m, 0, MOST_TOLD_MOVE) && isWithin(may, 0, 1);
    }

    private int howMany(int what) {
        Board board = game.board;
        switch (what) {
            case 0: return board.width;
            case 1: return board.height;
            case 2: return board.geese;
            case 3: return board.eaten();
            case 4: return board.turn;
            case 5: return board.movesDone;
            case 6: return board.open();
            case 7: return board.outcome();
            case 8: return Integer.bitCount(board.thickets);
            case 9: return game.notes.size;
            case 10: return game.marks.size;
            case 11: return game.pastSize;
            case 12: return reader.length;
            default: return BAD;
        }
    }

    /**
     * The worth behind n moves, exact if it lies between low and high; else only on which side it lies,
     * because what the other would never allow need not be looked through. The move is left in bestMoves[n]:
     * only a better one takes its place, so that of like ones the least stays.
     */
    private static int worthBehind(Board[] trials, int[] bestMoves, Board board, int n, int low, int high) {
        int outcome = board.outcome();
        if (outcome != GOING) {
            return outcome == HOME ? WORTH_HOME : 0;
        }
        if (n <= 0 || n > trials.length || n >= bestMoves.length) {
            return board.open();
        }
        Board trial = trials[n - 1];
        boolean foxTurn = board.turn == FOX_TURN;
        boolean moved = false;
        int last = board.lastMover();
        for (int who = board.firstMover(); who <= last && low < high; who++) {
            int cells = board.reach(who);
            for (int c = 0; c < MOST_CELLS && low < high; c++) {
                if ((cells >> c & 1) == 0) {
                    continue;
                }
                moved = true;
                trial.copyFrom(board);
                trial.step(who, c);
                int worth = worthBehind(trials, bestMoves, trial, n - 1, low, high);
                if (foxTurn && worth > low) {
                    low = worth;
                    bestMoves[n] = 100 * who + c;
                } else if (!foxTurn && worth < high) {
                    high = worth;
                    bestMoves[n] = 100 * who + c;
                }
            }
        }
        if (!moved) {
            trial.copyFrom(board);
            trial.endMove();
            return worthBehind(trials, bestMoves, trial, n - 1, low, high);
        }
        return foxTurn ? low : high;
    }

    /** The chance that she is home by n steps at random, as a number of shares of which SHARES to the n are all. */
    private static long homeShares(Board[] trials, Board board, int n) {
        if (board.isHome()) {
            return power(SHARES, n);
        }
        if (n <= 0 || n > trials.length) {
            return 0;
        }
        Board trial = trials[n - 1];
        int cells = board.reach(FOX);
        int ways = Integer.bitCount(cells);
        if (ways == 0) {
            trial.copyFrom(board);
            trial.endMove();
            return SHARES * homeShares(trials, trial, n - 1);
        }
        long sum = 0;
        for (int c = 0; c < MOST_CELLS; c++) {
            if ((cells >> c & 1) != 0) {
                trial.copyFrom(board);
                trial.step(FOX, c);
                sum += homeShares(trials, trial, n - 1);
            }
        }
        return SHARES / ways * sum;
    }

    private static long power(long base, int n) {
        long product = 1;
        for (int i = 0; i < n; i++) {
            product *= base;
        }
        return product;
    }

    private void keepFraction(long upper, long lower) {
        long divisor = greatestDivisor(upper, lower);
        if (divisor > 0) {
            above = upper / divisor;
            below = lower / divisor;
        }
    }

    /** Of two numbers not below 0; a hundred rounds are above what numbers of 64 bits can need. */
    private static long greatestDivisor(long a, long b) {
        for (int i = 0; i < 100 && b != 0; i++) {
            long rest = a % b;
            a = b;
            b = rest;
        }
        return a;
    }

    private int foxKinds() {
        Told notes = game.notes;
        int fit = (1 << KINDS) - 1;
        for (int row = 0; row < notes.size; row++) {
            int may = Kinds.foxesThatMay(notes.at(row, 0), notes.at(row, 1), notes.at(row, 2), notes.at(row, 3));
            fit &= notes.at(row, 4) == 1 ? may : ~may;
        }
        return fit;
    }

    private int gooseKinds(int i) {
        Told marks = game.marks;
        int fit = (1 << KINDS) - 1;
        for (int row = 0; row < marks.size; row++) {
            if (marks.at(row, 0) == i) {
                int may = Kinds.geeseThatMay(marks.at(row, 1), marks.at(row, 2), marks.at(row, 3));
                fit &= marks.at(row, 4) == 1 ? may : ~may;
            }
        }
        return fit;
    }

    /** The code of the step that parts these kinds most evenly, the least of like ones; NONE for no kinds. */
    private static int evenestStep(int fit, boolean ofFox) {
        int codes = fit == 0 ? 0 : ofFox ? LOOK_CODES : ASK_CODES;
        int leastGreater = KINDS + 1;
        int found = NONE;
        for (int code = 0; code < codes; code++) {
            int dx = code / 100 % 10 - FARTHEST;
            int dy = code / 10 % 10 - FARTHEST;
            int m = code % 10;
            if (dx > FARTHEST || dy > FARTHEST || ofFox && m >= LOOK_MOVES) {
                continue;
            }
            int may = ofFox ? Kinds.foxesThatMay(dx, dy, m, code / 1000) : Kinds.geeseThatMay(dx, dy, m);
            int greater = Math.max(Integer.bitCount(fit & may), Integer.bitCount(fit & ~may));
            if (greater < leastGreater) {
                leastGreater = greater;
                found = code;
            }
        }
        return found;
    }

    /** Does the move that this number falls on among those that can be done, rising; else passes. */
    private static void playNumber(Board board, long number) {
        int ways = board.countMoves();
        if (ways <= 0) {
            board.endMove();
            return;
        }
        int left = (int) (number % ways);
        int last = board.lastMover();
        for (int who = board.firstMover(); who <= last; who++) {
            int cells = board.reach(who);
            for (int c = 0; c < MOST_CELLS; c++) {
                if ((cells >> c & 1) == 0) {
                    continue;
                }
                if (left == 0) {
                    board.step(who, c);
                    return;
                }
                left--;
            }
        }
    }

    /** Which steps each kind may do. */
    private static final class Kinds {

        /** The square of a step's length tells its shape: 1 plain, 2 aslant, 4 two cells straight, 8 two aslant. */
        static boolean foxMay(int kind, int dx, int dy, int m, int over) {
            int square = dx * dx + dy * dy;
            boolean even = m % 2 == 0;
            boolean plain = square == 1;
            boolean slant = square == 2;
            boolean leap = over == 1 && square == 4;
            boolean slantLeap = over == 1 && square == 8;
            switch (kind) {
                case 0: return plain;
                case 1: return plain || slant;
                case 2: return plain || leap;
                case 3: return plain && (even || dy == 0);
                case 4: return plain || leap || slantLeap;
                case 5: return plain || even && slant;
                default: return false;
            }
        }

        static boolean gooseMay(int kind, int dx, int dy, int m) {
            boolean aside = dx == 1 || dx == -1;
            boolean on = dx == 0 && dy == 1;
            boolean plain = on || dy == 0 && aside;
            boolean bold = plain || dy == 1 && aside;
            boolean shy = m % 4 < 2 ? plain : on;
            switch (kind) {
                case 0: return plain;
                case 1: return bold;
                case 2: return shy;
                case 3: return bold || dx == 0 && dy == -1;
                case 4: return m % 6 < 4 && shy;
                case 5: return on;
                default: return false;
            }
        }

        static int foxesThatMay(int dx, int dy, int m, int over) {
            int kinds = 0;
            for (int kind = 0; kind < KINDS; kind++) {
                if (foxMay(kind, dx, dy, m, over)) {
                    kinds |= 1 << kind;
                }
            }
            return kinds;
        }

        static int geeseThatMay(int dx, int dy, int m) {
            int kinds = 0;
            for (int kind = 0; kind < KINDS; kind++) {
                if (gooseMay(kind, dx, dy, m)) {
                    kinds |= 1 << kind;
                }
            }
            return kinds;
        }
    }

    /** Where everybody is, whose turn it is, and how many moves were done. */
    private static final class Board {
        int width;
        int height;
        int thickets;
        int foxKind;
        int foxCell;
        int geese;
        int turn;
        int movesDone;
        final int[] gooseKind = new int[MOST_GEESE];
        final int[] gooseCell = new int[MOST_GEESE];

        Board() {
            begin(MOST_SIDE, MOST_SIDE);
        }

        void begin(int w, int h) {
            width = w;
            height = h;
            thickets = 0;
            foxKind = 0;
            foxCell = w * h - 1;
            geese = 0;
            turn = GEESE_TURN;
            movesDone = 0;
        }

        void copyFrom(Board other) {
            width = other.width;
            height = other.height;
            thickets = other.thickets;
            foxKind = other.foxKind;
            foxCell = other.foxCell;
            geese = other.geese;
            turn = other.turn;
            movesDone = other.movesDone;
            for (int i = 0; i < MOST_GEESE; i++) {
                gooseKind[i] = other.gooseKind[i];
                gooseCell[i] = other.gooseCell[i];
            }
        }

        boolean hasCell(int c) {
            return c >= 0 && c < width * height;
        }

        boolean isFree(int c) {
            return c != foxCell && isFreeForFox(c);
        }

        boolean isFreeForFox(int c) {
            return ((thickets | gooseBits()) >> c & 1) == 0;
        }

        boolean isGoose(int i) {
            return i >= 0 && i < geese && i < MOST_GEESE;
        }

        boolean isGooseAlive(int i) {
            return i >= 0 && i < geese && i < MOST_GEESE && gooseCell[i] != NONE;
        }

        int kindOf(int who) {
            if (who == FOX) {
                return foxKind;
            }
            return isGoose(who) ? gooseKind[who] : NONE;
        }

        int cellOf(int who) {
            if (who == FOX) {
                return foxCell;
            }
            return isGoose(who) ? gooseCell[who] : NONE;
        }

        int eaten() {
            return geese - Integer.bitCount(gooseBits());
        }

        /** The cells on which geese are. */
        int gooseBits() {
            int cells = 0;
            for (int i = 0; i < geese && i < MOST_GEESE; i++) {
                if (gooseCell[i] != NONE) {
                    cells |= 1 << gooseCell[i];
                }
            }
            return cells;
        }

        int firstMover() {
            return turn == FOX_TURN ? FOX : 0;
        }

        int lastMover() {
            return turn == FOX_TURN ? FOX : geese - 1;
        }

        /** The cells to which one of them could step in the move to come, were it its turn. */
        int reach(int who) {
            return who == FOX ? foxReach(foxCell, movesDone, true) : gooseReach(who);
        }

        int gooseReach(int i) {
            if (width <= 0 || !isGooseAlive(i)) {
                return 0;
            }
            int x = gooseCell[i] % width;
            int y = gooseCell[i] / width;
            int shut = thickets | gooseBits() | 1 << foxCell;
            int cells = 0;
            for (int toY = Math.max(0, y - 1); toY < height && toY <= y + 1; toY++) {
                for (int toX = Math.max(0, x - 1); toX < width && toX <= x + 1; toX++) {
                    int to = toY * width + toX;
                    if ((shut >> to & 1) == 0 && Kinds.gooseMay(gooseKind[i], toX - x, toY - y, movesDone)) {
                        cells |= 1 << to;
                    }
                }
            }
            return cells;
        }

        int open() {
            return Integer.bitCount(reach(FOX));
        }

        /** To where she could step from a cell in move m, over geese too or not. */
        int foxReach(int from, int m, boolean overGeese) {
            if (width <= 0) {
                return 0;
            }
            int x = from % width;
            int y = from / width;
            int flock = gooseBits();
            int shut = thickets | flock;
            int cells = 0;
            for (int toY = Math.max(0, y - 2); toY < height && toY <= y + 2; toY++) {
                for (int toX = Math.max(0, x - 2); toX < width && toX <= x + 2; toX++) {
                    int to = toY * width + toX;
                    if ((shut >> to & 1) != 0) {
                        continue;
                    }
                    int half = halfWay(from, to);
                    int over = half == NONE ? 0 : flock >> half & 1;
                    if ((overGeese || over == 0) && Kinds.foxMay(foxKind, toX - x, toY - y, m, over)) {
                        cells |= 1 << to;
                    }
                }
            }
            return cells;
        }

        /** Where the fox could be, one step (over nobody) on from any of these cells. */
        int walkOn(int cells, int m) {
            int next = 0;
            for (int c = 0; c < MOST_CELLS; c++) {
                if ((cells >> c & 1) != 0) {
                    next |= foxReach(c, m, false);
                }
            }
            return next;
        }

        /** The cell in the middle between two others; NONE, if no cell is there. */
        int halfWay(int from, int to) {
            if (width <= 0 || from == to) {
                return NONE;
            }
            int twiceX = from % width + to % width;
            int twiceY = from / width + to / width;
            return twiceX % 2 == 0 && twiceY % 2 == 0 ? twiceY / 2 * width + twiceX / 2 : NONE;
        }

        boolean isHome() {
            return foxCell < width;
        }

        int outcome() {
            if (isHome()) {
                return HOME;
            }
            return turn == FOX_TURN && foxReach(foxCell, movesDone, true) == 0 ? CAUGHT : GOING;
        }

        /** How many steps can be done by those whose turn it is. */
        int countMoves() {
            int ways = 0;
            int last = lastMover();
            for (int who = firstMover(); who <= last; who++) {
                ways += Integer.bitCount(reach(who));
            }
            return ways;
        }

        boolean mayPass() {
            for (int i = 0; i < geese; i++) {
                if (gooseReach(i) != 0) {
                    return false;
                }
            }
            return turn == GEESE_TURN && movesDone < MOST_MOVES && !isHome();
        }

        boolean mayMove(int who, int c) {
            boolean itsTurn = (who == FOX) == (turn == FOX_TURN);
            return itsTurn && movesDone < MOST_MOVES && outcome() == GOING && (reach(who) >> c & 1) != 0;
        }

        /** Does a step that can be done; answers whether a goose is eaten by it. */
        boolean step(int who, int c) {
            boolean eats = false;
            if (who == FOX) {
                eats = eatAt(halfWay(foxCell, c));
                foxCell = c;
            } else if (isGoose(who)) {
                gooseCell[who] = c;
            }
            endMove();
            return eats;
        }

        boolean eatAt(int c) {
            for (int i = 0; i < geese && i < MOST_GEESE; i++) {
                if (c != NONE && gooseCell[i] == c) {
                    gooseCell[i] = NONE;
                    return true;
                }
            }
            return false;
        }

        void endMove() {
            movesDone++;
            turn = turn == FOX_TURN ? GEESE_TURN : FOX_TURN;
        }
    }

    /** Notes or marks: rows of five numbers, as they come. */
    private static final class Told {
        int size;
        final int[] rows = new int[MOST_TOLD * TOLD_ROW];

        boolean add(int a, int b, int c, int d, int e) {
            if (size < 0 || size >= MOST_TOLD) {
                return false;
            }
            int at = size * TOLD_ROW;
            rows[at] = a;
            rows[at + 1] = b;
            rows[at + 2] = c;
            rows[at + 3] = d;
            rows[at + 4] = e;
            size++;
            return true;
        }

        int at(int row, int column) {
            int at = row * TOLD_ROW + column;
            return at >= 0 && at < rows.length ? rows[at] : 0;
        }

        void copyFrom(Told other) {
            size = other.size;
            System.arraycopy(other.rows, 0, rows, 0, rows.length);
        }

        long digestFrom(long h) {
            for (int k = 0; k < size * TOLD_ROW && k < rows.length; k++) {
                h = 31 * h + rows[k];
            }
            return h;
        }
    }

    /** All that an image keeps: the board, notes, marks, and what may be undone. */
    private static final class Game {
        final Board board = new Board();
        final Told notes = new Told();
        final Told marks = new Told();
        int pastSize;
        final int[] past = new int[MOST_UNDO * UNDO_ROW];

        void begin(int w, int h) {
            board.begin(w, h);
            notes.size = 0;
            marks.size = 0;
            pastSize = 0;
        }

        void copyFrom(Game other) {
            board.copyFrom(other.board);
            notes.copyFrom(other.notes);
            marks.copyFrom(other.marks);
            pastSize = other.pastSize;
            System.arraycopy(other.past, 0, past, 0, past.length);
        }

        void plant(int c) {
            board.thickets |= 1 << c;
            pastSize = 0;
        }

        void putFox(int kind, int c) {
            board.foxKind = kind;
            board.foxCell = c;
            pastSize = 0;
        }

        void addGoose(int kind, int c) {
            int i = board.geese;
            if (i < 0 || i >= MOST_GEESE) {
                return;
            }
            board.gooseKind[i] = kind;
            board.gooseCell[i] = c;
            board.geese++;
            pastSize = 0;
        }

        /** Keeps what the move to come will change; the oldest gives way. */
        void remember() {
            if (pastSize >= MOST_UNDO) {
                System.arraycopy(past, UNDO_ROW, past, 0, (MOST_UNDO - 1) * UNDO_ROW);
                pastSize = MOST_UNDO - 1;
            }
            int at = pastSize * UNDO_ROW;
            if (at < 0 || at + UNDO_ROW > past.length) {
                return;
            }
            past[at] = board.foxCell;
            past[at + 1] = board.turn;
            past[at + 2] = board.movesDone;
            for (int i = 0; i < MOST_GEESE; i++) {
                past[at + 3 + i] = board.gooseCell[i];
            }
            pastSize++;
        }

        boolean takeBack() {
            int at = (pastSize - 1) * UNDO_ROW;
            if (at < 0 || at + UNDO_ROW > past.length) {
                return false;
            }
            board.foxCell = past[at];
            board.turn = past[at + 1];
            board.movesDone = past[at + 2];
            for (int i = 0; i < MOST_GEESE; i++) {
                board.gooseCell[i] = past[at + 3 + i];
            }
            pastSize--;
            return true;
        }
    }

    /** The text, and a game read from it, which stands only if no fault was found. */
    private static final class Reader {
        static final int END = 0, WORD = 1, NUMBER = 2, STOP = 3, OTHER = 4;
        static final int FIELD_ITEM = 0, THICKET_ITEM = 1, FOX_ITEM = 2, GOOSE_ITEM = 3, GO_ITEM = 4, MOVE_ITEM = 5,
                PASS_ITEM = 6;
        static final int FAULT_BASE = -10;

        final int[] text = new int[MOST_BYTES];
        int length;
        final Game told = new Game();
        int tokenStart;
        int tokenEnd;
        int tokenSort;

        boolean addByte(int c) {
            if (length < 0 || length >= text.length) {
                return false;
            }
            text[length] = c;
            length++;
            return true;
        }

        /** How many items; FAULT_BASE less the fault. Whatever cannot stand, the fault is where its token starts. */
        int readText() {
            told.begin(MOST_SIDE, MOST_SIDE);
            tokenEnd = 0;
            for (int items = 0; items <= MOST_BYTES; items++) {
                nextToken();
                if (tokenSort == END && items > 0) {
                    return items;
                }
                int item = itemNamed();
                if ((item == FIELD_ITEM) != (items == 0) || !readParts(item)) {
                    break;
                }
                nextToken();
                if (tokenSort != STOP) {
                    break;
                }
            }
            return FAULT_BASE - tokenStart;
        }

        boolean readParts(int item) {
            switch (item) {
                case FIELD_ITEM: return readField();
                case THICKET_ITEM: return readThicket();
                case FOX_ITEM: return readFox();
                case GOOSE_ITEM: return readGoose();
                case GO_ITEM: return readStep(FOX);
                case MOVE_ITEM: return readStep(nextGoose());
                case PASS_ITEM: return readPass();
                default: return false;
            }
        }

        boolean readField() {
            int w = nextNumber();
            if (!isSide(w)) {
                return false;
            }
            int h = nextNumber();
            if (!isSide(h)) {
                return false;
            }
            told.begin(w, h);
            return true;
        }

        boolean readThicket() {
            int c = nextNumber();
            if (!told.board.hasCell(c) || !told.board.isFree(c)) {
                return false;
            }
            told.plant(c);
            return true;
        }

        boolean readFox() {
            int kind = nextNumber();
            if (!isKind(kind)) {
                return false;
            }
            int c = nextNumber();
            if (!told.board.hasCell(c) || !told.board.isFreeForFox(c)) {
                return false;
            }
            told.putFox(kind, c);
            return true;
        }

        boolean readGoose() {
            if (told.board.geese >= MOST_GEESE) {
                return false;
            }
            int kind = nextNumber();
            if (!isKind(kind)) {
                return false;
            }
            int c = nextNumber();
            if (!told.board.hasCell(c) || !told.board.isFree(c)) {
                return false;
            }
            told.addGoose(kind, c);
            return true;
        }

        /** A step by the fox, or by a goose; by NONE, if no goose was told rightly: the fault is at its number then. */
        boolean readStep(int who) {
            if (who == NONE) {
                return false;
            }
            int c = nextNumber();
            if (!told.board.hasCell(c) || !told.board.mayMove(who, c)) {
                return false;
            }
            told.board.step(who, c);
            return true;
        }

        int nextGoose() {
            int i = nextNumber();
            return told.board.isGooseAlive(i) ? i : NONE;
        }

        boolean readPass() {
            if (!told.board.mayPass()) {
                return false;
            }
            told.board.endMove();
            return true;
        }

        /** The next token's number; NONE, if it is none: no number can be that. */
        int nextNumber() {
            nextToken();
            if (tokenSort != NUMBER) {
                return NONE;
            }
            int number = 0;
            for (int k = tokenStart; k < tokenEnd; k++) {
                number = 10 * number + byteAt(k) - '0';
            }
            return number;
        }

        void nextToken() {
            int at = tokenEnd;
            while (at < length && byteAt(at) == ' ') {
                at++;
            }
            tokenStart = at;
            if (at >= length) {
                tokenEnd = length;
                tokenSort = END;
                return;
            }
            int first = byteAt(at);
            tokenSort = isLetter(first) ? WORD : isFigure(first) ? NUMBER : first == ';' ? STOP : OTHER;
            at++;
            while (at < length && (tokenSort == WORD && isLetter(byteAt(at))
                    || tokenSort == NUMBER && isFigure(byteAt(at)))) {
                at++;
            }
            tokenEnd = at;
            if (tokenSort == NUMBER && tokenEnd - tokenStart > 2) {
                tokenSort = OTHER;
            }
        }

        int itemNamed() {
            if (tokenIs("field")) {
                return FIELD_ITEM;
            }
            if (tokenIs("thicket")) {
                return THICKET_ITEM;
            }
            if (tokenIs("fox")) {
                return FOX_ITEM;
            }
            if (tokenIs("goose")) {
                return GOOSE_ITEM;
            }
            if (tokenIs("go")) {
                return GO_ITEM;
            }
            if (tokenIs("move")) {
                return MOVE_ITEM;
            }
            return tokenIs("pass") ? PASS_ITEM : NONE;
        }

        boolean tokenIs(String word) {
            if (tokenSort != WORD || tokenEnd - tokenStart != word.length()) {
                return false;
            }
            for (int k = 0; k < word.length(); k++) {
                if (byteAt(tokenStart + k) != word.charAt(k)) {
                    return false;
                }
            }
            return true;
        }

        int byteAt(int place) {
            return place >= 0 && place < length && place < text.length ? text[place] : NONE;
        }

        static boolean isLetter(int c) {
            return c >= 'a' && c <= 'z';
        }

        static boolean isFigure(int c) {
            return c >= '0' && c <= '9';
        }
    }
}
