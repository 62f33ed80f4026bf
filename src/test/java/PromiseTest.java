import java.util.concurrent.Callable;

/** What each promise of the document asks, by its number: ordinary calls, the edges it names, wrong calls. */
public final class PromiseTest {
    private static final Class<?> INDEX = IndexOutOfBoundsException.class;
    private static final Class<?> ARGUMENT = IllegalArgumentException.class;
    private static final Class<?> STATE = IllegalStateException.class;
    /** Its rows and columns read otherwise from the other end. */
    private static final String[] SKEW = {"#.##.", "....#", "##..#", "#.#.#"};
    private static final int MIN = Integer.MIN_VALUE;
    private static final int MAX = Integer.MAX_VALUE;
    private static int wrong = 0;
    private static int asked = 0;

    public static void main(String[] args) throws Exception {
        newObject();
        boards();
        clues();
        opening();
        marks();
        sweeps();
        guesses();
        goingBack();
        turns();
        paints();
        reads();
        wipes();
        knocks();
        cells();
        lines();
        ways();
        ofBoards();
        texts();
        pictures();
        chances();
        blurs();
        manies();
        hints();
        tosses();
        woulds();
        needs();
        alikes();
        digests();
        sameWaysOtherSize();
        changesNothing();
        System.out.println(asked + " answers asked, " + wrong + " wrong");
        if (wrong > 0) {
            System.exit(1);
        }
    }

    // ---- how it is asked

    private static void due(int promise, String call, Object got, Object want) {
        asked++;
        if (!want.equals(got)) {
            wrong++;
            System.out.println("promise " + promise + ": " + call + " answered " + got + ", due is " + want);
        }
    }

    /** Asks for just this exception, and for a digest as before. */
    private static void refuses(int promise, TesseraHall x, String call, Class<?> want, Callable<Object> asks) {
        long before = x.digest();
        Object got;
        try {
            got = asks.call();
        } catch (Exception e) {
            got = e.getClass();
        }
        due(promise, call, got, want);
        due(promise, "digest behind the refused " + call, x.digest(), before);
    }

    private static TesseraHall hallOf(int wide, int high) {
        TesseraHall x = new TesseraHall();
        x.board(wide, high);
        return x;
    }

    /** A hall whose board 0 shows these rows, read off where no "?" is among them. */
    private static TesseraHall readOff(String... rows) {
        TesseraHall x = new TesseraHall();
        addReadOff(x, rows);
        return x;
    }

    private static void addReadOff(TesseraHall x, String... rows) {
        int board = x.board(rows[0].length(), rows.length);
        for (int row = 0; row < rows.length; row++) {
            int set = 0;
            for (int c = 0; c < rows[row].length(); c++) {
                set += rows[row].charAt(c) == '#' ? 1 << c : 0;
            }
            x.paint(board, row, set);
        }
        x.read(board);
    }

    /** Six pictures: one dark cell in each row and column of 3 by 3. */
    private static TesseraHall sixPictures() {
        TesseraHall x = hallOf(3, 3);
        for (int line = 0; line < 6; line++) {
            x.clue(0, line, 1);
        }
        return x;
    }

    // ---- the promises

    private static void newObject() {
        TesseraHall x = new TesseraHall();
        for (int what = 0; what <= 4; what++) {
            due(1, "many(" + what + ")", x.many(what), 0);
        }
        due(1, "digest()", x.digest(), 58319L * 31 * 31 * 31 * 31 * 31);
        refuses(1, x, "text(0)", INDEX, () -> x.text(0));
    }

    private static void boards() {
        TesseraHall x = new TesseraHall();
        int[][] bad = {{1, 3}, {6, 3}, {3, 1}, {3, 6}, {0, 0}, {-2, 3}, {MIN, 2}, {2, MAX}};
        for (int[] size : bad) {
            refuses(2, x, "board of a bad size", ARGUMENT, () -> x.board(size[0], size[1]));
        }
        due(2, "board(2, 5)", x.board(2, 5), 0);
        due(2, "board(5, 2)", x.board(5, 2), 1);
        due(2, "board(4, 3)", x.board(4, 3), 2);
        due(2, "WIDE of 0", x.ofBoard(0, 0), 2);
        due(2, "HIGH of 0", x.ofBoard(0, 1), 5);
        due(2, "text(2)", x.text(2), "????/????/????");
        due(2, "OPEN LINES of 2", x.ofBoard(2, 8), 7);
        refuses(2, x, "board(2, 2), a fourth", STATE, () -> x.board(2, 2));
        refuses(2, x, "board(6, 2), a fourth", ARGUMENT, () -> x.board(6, 2));
    }

    private static void clues() {
        TesseraHall x = hallOf(5, 3);
        due(3, "clue(0, 0, 0)", x.clue(0, 0, 0), 1);
        due(3, "clue(0, 0, 11)", x.clue(0, 0, 11), 6);
        due(3, "clue(0, 0, 111)", x.clue(0, 0, 111), 1);
        due(3, "clue(0, 0, 5)", x.clue(0, 0, 5), 1);
        due(3, "clue(0, 0, 1)", x.clue(0, 0, 1), 5);
        due(3, "clue(0, 3, 3)", x.clue(0, 3, 3), 1);
        due(3, "clue(0, 3, 11)", x.clue(0, 3, 11), 1);
        due(3, "clue(0, 7, 2)", x.clue(0, 7, 2), 2);
        x.open(0, 3);
        x.mark(0, 0, false);
        due(3, "clue(0, 0, 21) behind a LIGHT CELL", x.clue(0, 0, 21), 1);
        due(3, "clue(0, 0, 5) behind a LIGHT CELL", x.clue(0, 0, 5), 0);
        due(3, "ofLine(0, 0, 0)", x.ofLine(0, 0, 0), 5);
        for (int board : new int[] {-1, 1, 3, MIN, MAX}) {
            refuses(3, x, "clue(" + board + ", 0, -1)", INDEX, () -> x.clue(board, 0, -1));
        }
        for (int line : new int[] {-1, 8, MIN, MAX}) {
            refuses(3, x, "clue(0, " + line + ", -1)", INDEX, () -> x.clue(0, line, -1));
        }
        int[] bad = {-1, MIN, 10, 101, 100, 6, 51, 32, 23, 1111, 1112, 401, 222, MAX, 1_000_000_000, 1_111_111_111};
        for (int runs : bad) {
            refuses(3, x, "clue(0, 0, " + runs + ")", ARGUMENT, () -> x.clue(0, 0, runs));
        }
        for (int runs : new int[] {4, 12, 21, 111, 5}) {
            refuses(3, x, "clue(0, 3, " + runs + ")", ARGUMENT, () -> x.clue(0, 3, runs));
        }
    }

    private static void opening() {
        TesseraHall x = hallOf(5, 2);
        due(4, "open(0, 0) of an OPEN one", x.open(0, 0), -1);
        x.clue(0, 0, 12);
        x.clue(0, 1, 0);
        due(4, "open(0, 0)", x.open(0, 0), 12);
        due(4, "open(0, 0) again", x.open(0, 0), -1);
        due(4, "open(0, 1) of 0", x.open(0, 1), 0);
        due(4, "its WAYS", x.ofLine(0, 1, 2), 32);
        due(4, "open(0, 6)", x.open(0, 6), -1);
        for (int board : new int[] {-1, 1, MIN, MAX}) {
            refuses(4, x, "open(" + board + ", 0)", INDEX, () -> x.open(board, 0));
        }
        for (int line : new int[] {-1, 7, MIN, MAX}) {
            refuses(4, x, "open(0, " + line + ")", INDEX, () -> x.open(0, line));
        }
    }

    private static void marks() {
        TesseraHall x = readOff("##", ".#");
        due(5, "mark(0, 2, true), a MISTAKE", x.mark(0, 2, true), false);
        due(5, "its text", x.text(0), "??/??");
        due(5, "its MISTAKES", x.ofBoard(0, 6), 1);
        due(5, "mark(0, 2, false)", x.mark(0, 2, false), true);
        due(5, "its text", x.text(0), "??/.?");
        due(5, "its REASON", x.ofCell(0, 2, 1), -1);
        due(5, "its ROUND", x.ofCell(0, 2, 2), 0);
        due(5, "its DEPTH", x.ofCell(0, 2, 3), 0);
        x.guess(0, 0, false);
        due(5, "mark(0, 1, true) without PICTURES", x.mark(0, 1, true), false);
        due(5, "mark(0, 1, false) without PICTURES", x.mark(0, 1, false), false);
        due(5, "MISTAKES", x.many(2), 3);
        x.back(0, false);
        x.guess(0, 0, true);
        due(5, "mark(0, 1, true) upon a GUESS", x.mark(0, 1, true), true);
        due(5, "its DEPTH", x.ofCell(0, 1, 3), 1);
        refuses(5, x, "mark(0, 1, true) again", STATE, () -> x.mark(0, 1, true));
        refuses(5, x, "mark(0, 1, false) again", STATE, () -> x.mark(0, 1, false));
        for (int board : new int[] {-1, 1, MIN, MAX}) {
            refuses(5, x, "mark(" + board + ", 0, true)", INDEX, () -> x.mark(board, 0, true));
        }
        for (int cell : new int[] {-1, 4, MIN, MAX}) {
            refuses(5, x, "mark(0, " + cell + ", true)", INDEX, () -> x.mark(0, cell, true));
        }
    }

    private static void sweeps() {
        TesseraHall x = hallOf(5, 5);
        due(6, "sweep(0) of an OPEN BOARD", x.sweep(0), 0);
        x.clue(0, 0, 3);
        x.clue(0, 7, 5);
        x.clue(0, 1, 1);
        // Line 0 (3) gives the cell 2 in round 1, line 7 the column below it; line 1 (1) the rest of its row in 2.
        due(6, "sweep(0)", x.sweep(0), 1 + 4 + 4);
        due(6, "text(0)", x.text(0), "??#??/..#../??#??/??#??/??#??");
        due(6, "REASON of 2", x.ofCell(0, 2, 1), 0);
        due(6, "ROUND of 2", x.ofCell(0, 2, 2), 1);
        due(6, "REASON of 7", x.ofCell(0, 7, 1), 7);
        due(6, "ROUND of 7", x.ofCell(0, 7, 2), 1);
        due(6, "REASON of 5", x.ofCell(0, 5, 1), 1);
        due(6, "ROUND of 5", x.ofCell(0, 5, 2), 2);
        due(6, "SWEEPS", x.ofBoard(0, 9), 2);
        x.guess(0, 0, true);
        due(6, "sweep(0) upon a GUESS", x.sweep(0), 3);
        due(6, "DEPTH of 1", x.ofCell(0, 1, 3), 1);
        due(6, "DEPTH of 2", x.ofCell(0, 2, 3), 0);
        brokenSweep();
        for (int board : new int[] {-1, 1, MIN, MAX}) {
            refuses(6, x, "sweep(" + board + ")", INDEX, () -> x.sweep(board));
        }
    }

    private static void brokenSweep() {
        TesseraHall x = hallOf(3, 3);
        x.clue(0, 0, 3);
        x.clue(0, 2, 3);
        x.clue(0, 3, 2);
        // The columns come behind the rows: both rows stand as the column 0 is found BROKEN, all else stays.
        due(6, "sweep(0) that ends at a BROKEN LINE", x.sweep(0), 6);
        due(6, "text(0)", x.text(0), "###/???/###");
        due(6, "SWEEPS", x.ofBoard(0, 9), 1);
        due(6, "BROKEN LINES", x.ofBoard(0, 4), 1);
        due(6, "sweep(0) again", x.sweep(0), 0);
    }

    private static void guesses() {
        TesseraHall x = hallOf(3, 3);
        x.clue(0, 0, 0);
        due(7, "guess(0, 0, true), whatever COUNT is", x.guess(0, 0, true), 1);
        due(7, "what it is", x.ofCell(0, 0, 0), 1);
        due(7, "its REASON", x.ofCell(0, 0, 1), -1);
        due(7, "its ROUND", x.ofCell(0, 0, 2), 0);
        due(7, "its DEPTH", x.ofCell(0, 0, 3), 1);
        due(7, "COUNT", x.ofBoard(0, 7), 0);
        due(7, "MISTAKES", x.ofBoard(0, 6), 0);
        refuses(7, x, "guess(0, 0, true) again", STATE, () -> x.guess(0, 0, true));
        for (int cell = 1; cell < 6; cell++) {
            due(7, "guess(0, " + cell + ", false)", x.guess(0, cell, false), cell + 1);
            due(7, "DEPTH of " + cell, x.ofCell(0, cell, 3), cell + 1);
        }
        due(7, "text(0)", x.text(0), "#../.../???");
        refuses(7, x, "a seventh guess", STATE, () -> x.guess(0, 6, true));
        due(7, "GUESSES", x.ofBoard(0, 5), 6);
        x.board(2, 2);
        due(7, "guess(1, 3, true)", x.guess(1, 3, true), 1);
        for (int board : new int[] {-1, 2, MIN, MAX}) {
            refuses(7, x, "guess(" + board + ", 0, true)", INDEX, () -> x.guess(board, 0, true));
        }
        for (int cell : new int[] {-1, 9, MIN, MAX}) {
            refuses(7, x, "guess(0, " + cell + ", true)", INDEX, () -> x.guess(0, cell, true));
        }
    }

    private static void goingBack() {
        TesseraHall x = hallOf(3, 2);
        refuses(8, x, "back(0, true) without a GUESS", STATE, () -> x.back(0, true));
        x.clue(0, 1, 3);
        x.guess(0, 1, true);
        x.sweep(0);
        x.guess(0, 2, false);
        x.clue(0, 0, 2);
        due(8, "back(0, true)", x.back(0, true), 2);
        due(8, "text(0)", x.text(0), "?##/###");
        due(8, "REASON of 2", x.ofCell(0, 2, 1), -2);
        due(8, "ROUND of 2", x.ofCell(0, 2, 2), 0);
        due(8, "DEPTH of 2", x.ofCell(0, 2, 3), 1);
        due(8, "DEPTH of 3", x.ofCell(0, 3, 3), 1);
        due(8, "REASON of 3", x.ofCell(0, 3, 1), 1);
        due(8, "the CLUE stays", x.ofLine(0, 0, 0), 2);
        due(8, "GUESSES", x.ofBoard(0, 5), 1);
        due(8, "back(0, false)", x.back(0, false), 1);
        due(8, "text(0)", x.text(0), "???/???");
        due(8, "REASON of 3", x.ofCell(0, 3, 1), -1);
        due(8, "DEPTH of 3", x.ofCell(0, 3, 3), 0);
        x.guess(0, 5, true);
        due(8, "back(0, true)", x.back(0, true), 5);
        due(8, "text(0)", x.text(0), "???/??.");
        due(8, "DEPTH of 5", x.ofCell(0, 5, 3), 0);
        refuses(8, x, "back(0, false) without a GUESS", STATE, () -> x.back(0, false));
        for (int board : new int[] {-1, 1, MIN, MAX}) {
            refuses(8, x, "back(" + board + ", true)", INDEX, () -> x.back(board, true));
        }
    }

    private static void turns() {
        TesseraHall x = hallOf(4, 2);
        x.clue(0, 0, 12);
        x.clue(0, 1, 1);
        x.clue(0, 2, 2);
        x.clue(0, 5, 1);
        x.sweep(0);
        due(9, "text(0)", x.text(0), "#.##/#...");
        due(9, "REASON of 4", x.ofCell(0, 4, 1), 2);
        x.wipe(0);
        x.mark(0, 4, true);
        x.clue(0, 2, 2);
        x.open(0, 0);
        x.clue(0, 0, 12);
        x.sweep(0);
        due(9, "turn(0, 1)", x.turn(0, 1), 4);
        due(9, "text(0) behind a MIRROR", x.text(0), "##.#/...#");
        due(9, "CLUE of the row 0", x.ofLine(0, 0, 0), 21);
        due(9, "CLUE of the column 0", x.ofLine(0, 2, 0), 1);
        due(9, "CLUE of the column 3", x.ofLine(0, 5, 0), 2);
        due(9, "CLUE of the column 1", x.ofLine(0, 3, 0), -1);
        due(9, "REASON of 7", x.ofCell(0, 7, 1), -1);
        due(9, "REASON of 0", x.ofCell(0, 0, 1), 0);
        due(9, "REASON of 6", x.ofCell(0, 6, 1), 1);
        due(9, "turn(0, 2)", x.turn(0, 2), 2);
        due(9, "text(0) behind a TILT", x.text(0), "#./#./../##");
        due(9, "HIGH", x.ofBoard(0, 1), 4);
        due(9, "CLUE of the column 0", x.ofLine(0, 4, 0), 21);
        due(9, "CLUE of the row 3", x.ofLine(0, 3, 0), 2);
        due(9, "REASON of 0", x.ofCell(0, 0, 1), 4);
        due(9, "REASON of 5", x.ofCell(0, 5, 1), 5);
        due(9, "ROUND of 5", x.ofCell(0, 5, 2), 1);
        due(9, "turn(0, 0)", x.turn(0, 0), 2);
        due(9, "text(0) behind a HALF", x.text(0), "##/../.#/.#");
        due(9, "CLUE of the column 1", x.ofLine(0, 5, 0), 12);
        due(9, "CLUE of the row 0", x.ofLine(0, 0, 0), 2);
        due(9, "REASON of 7", x.ofCell(0, 7, 1), 5);
        due(9, "REASON of 2", x.ofCell(0, 2, 1), 4);
        turnedMarks();
        for (int how : new int[] {-1, 3, MIN, MAX}) {
            refuses(9, x, "turn(0, " + how + ")", ARGUMENT, () -> x.turn(0, how));
        }
        for (int board : new int[] {-1, 1, MIN, MAX}) {
            refuses(9, x, "turn(" + board + ", 3)", INDEX, () -> x.turn(board, 3));
        }
        x.wipe(0);
        x.guess(0, 0, true);
        refuses(9, x, "turn(0, 3) upon a GUESS", ARGUMENT, () -> x.turn(0, 3));
        for (int how = 0; how < 3; how++) {
            int by = how;
            refuses(9, x, "turn(0, " + how + ") upon a GUESS", STATE, () -> x.turn(0, by));
        }
    }

    private static void turnedMarks() {
        TesseraHall x = hallOf(3, 2);
        x.guess(0, 0, true);
        x.back(0, true);
        x.mark(0, 1, true);
        for (int how = 0; how < 3; how++) {
            x.turn(0, how);
        }
        // By HALF 0 goes to 5, by MIRROR to 3, by TILT of 3 by 2 to 1; 1 goes to 4, 4 and 3.
        due(9, "text(0)", x.text(0), "?./?#/??");
        due(9, "REASON of the one told WRONG", x.ofCell(0, 1, 1), -2);
        due(9, "REASON of the one marked", x.ofCell(0, 3, 1), -1);
    }

    private static void paints() {
        TesseraHall x = hallOf(4, 3);
        due(10, "paint(0, 0, 5)", x.paint(0, 0, 5), 2);
        due(10, "text(0)", x.text(0), "#.#./????/????");
        due(10, "paint(0, 2, 15)", x.paint(0, 2, 15), 6);
        due(10, "paint(0, 0, 0)", x.paint(0, 0, 0), 4);
        due(10, "text(0)", x.text(0), "..../????/####");
        x.clue(0, 1, 4);
        x.sweep(0);
        due(10, "REASON of 4", x.ofCell(0, 4, 1), 1);
        due(10, "paint(0, 1, 8)", x.paint(0, 1, 8), 5);
        due(10, "REASON of 4", x.ofCell(0, 4, 1), -1);
        due(10, "ROUND of 4", x.ofCell(0, 4, 2), 0);
        due(10, "DEPTH of 4", x.ofCell(0, 4, 3), 0);
        due(10, "the CLUE stays", x.ofLine(0, 1, 0), 4);
        for (int set : new int[] {-1, 16, MIN, MAX}) {
            refuses(10, x, "paint(0, 0, " + set + ")", ARGUMENT, () -> x.paint(0, 0, set));
        }
        for (int row : new int[] {-1, 3, MIN, MAX}) {
            refuses(10, x, "paint(0, " + row + ", -1)", INDEX, () -> x.paint(0, row, -1));
        }
        for (int board : new int[] {-1, 1, MIN, MAX}) {
            refuses(10, x, "paint(" + board + ", 0, 0)", INDEX, () -> x.paint(board, 0, 0));
        }
        x.wipe(0);
        x.guess(0, 0, true);
        refuses(10, x, "paint(0, 0, 0) upon a GUESS", STATE, () -> x.paint(0, 0, 0));
        refuses(10, x, "paint(0, 0, 16) upon a GUESS", ARGUMENT, () -> x.paint(0, 0, 16));
    }

    private static void reads() {
        TesseraHall x = hallOf(5, 2);
        refuses(11, x, "read(0) with UNKNOWN CELLS", STATE, () -> x.read(0));
        x.clue(0, 0, 5);
        x.paint(0, 0, 0b11001);
        x.paint(0, 1, 0);
        due(11, "read(0)", x.read(0), 2 + 3);
        due(11, "text(0)", x.text(0), "?????/?????");
        due(11, "REASON", x.ofCell(0, 0, 1), -1);
        int[] clues = {12, 0, 1, 0, 0, 1, 1};
        for (int line = 0; line < 7; line++) {
            due(11, "CLUE of " + line, x.ofLine(0, line, 0), clues[line]);
        }
        x.paint(0, 0, 0);
        x.paint(0, 1, 0);
        due(11, "read(0) without DARK CELLS", x.read(0), 0);
        x.paint(0, 0, 0);
        x.paint(0, 1, 15);
        x.wipe(0);
        for (int cell = 0; cell < 6; cell++) {
            x.guess(0, cell, false);
        }
        refuses(11, x, "read(0) upon GUESSES", STATE, () -> x.read(0));
        TesseraHall one = hallOf(3, 2);
        one.paint(0, 0, 7);
        one.mark(0, 3, true);
        one.mark(0, 4, true);
        refuses(11, one, "read(0) with one UNKNOWN CELL", STATE, () -> one.read(0));
        TesseraHall y = hallOf(2, 2);
        for (int cell = 0; cell < 4; cell++) {
            y.guess(0, cell, true);
        }
        refuses(11, y, "read(0) upon GUESSES, all known", STATE, () -> y.read(0));
        for (int board : new int[] {-1, 1, MIN, MAX}) {
            refuses(11, x, "read(" + board + ")", INDEX, () -> x.read(board));
        }
    }

    private static void wipes() {
        TesseraHall x = hallOf(3, 3);
        due(12, "wipe(0)", x.wipe(0), 0);
        x.clue(0, 0, 0);
        x.mark(0, 0, true);
        x.sweep(0);
        x.guess(0, 8, true);
        x.guess(0, 7, false);
        due(12, "wipe(0)", x.wipe(0), 5);
        due(12, "text(0)", x.text(0), "???/???/???");
        due(12, "GUESSES", x.ofBoard(0, 5), 0);
        due(12, "MISTAKES stay", x.ofBoard(0, 6), 1);
        due(12, "SWEEPS stay", x.ofBoard(0, 9), 1);
        due(12, "CLUES stay", x.ofLine(0, 0, 0), 0);
        due(12, "REASON of 0", x.ofCell(0, 0, 1), -1);
        due(12, "ROUND of 0", x.ofCell(0, 0, 2), 0);
        due(12, "DEPTH of 8", x.ofCell(0, 8, 3), 0);
        refuses(12, x, "back(0, true) behind wipe(0)", STATE, () -> x.back(0, true));
        for (int board : new int[] {-1, 1, MIN, MAX}) {
            refuses(12, x, "wipe(" + board + ")", INDEX, () -> x.wipe(board));
        }
    }

    private static void knocks() {
        TesseraHall x = new TesseraHall();
        for (int n = 1; n <= 5; n++) {
            due(13, "knock()", x.knock(), n);
            due(13, "many(1)", x.many(1), n);
        }
    }

    private static void cells() {
        TesseraHall x = hallOf(2, 3);
        int[] fresh = {0, -1, 0, 0};
        for (int what = 0; what < 4; what++) {
            due(14, "ofCell(0, 5, " + what + ")", x.ofCell(0, 5, what), fresh[what]);
        }
        x.clue(0, 4, 3);
        x.guess(0, 0, false);
        x.sweep(0);
        int[] swept = {1, 4, 1, 1};
        int[] guessed = {2, -1, 0, 1};
        for (int what = 0; what < 4; what++) {
            due(14, "ofCell(0, 5, " + what + ")", x.ofCell(0, 5, what), swept[what]);
            due(14, "ofCell(0, 0, " + what + ")", x.ofCell(0, 0, what), guessed[what]);
        }
        for (int board : new int[] {-1, 1, MIN, MAX}) {
            refuses(14, x, "ofCell(" + board + ", 0, 0)", INDEX, () -> x.ofCell(board, 0, 0));
        }
        for (int cell : new int[] {-1, 6, MIN, MAX}) {
            refuses(14, x, "ofCell(0, " + cell + ", 9)", INDEX, () -> x.ofCell(0, cell, 9));
        }
        for (int what : new int[] {-1, 4, MIN, MAX}) {
            refuses(14, x, "ofCell(0, 0, " + what + ")", ARGUMENT, () -> x.ofCell(0, 0, what));
        }
    }

    private static void lines() {
        TesseraHall x = hallOf(5, 4);
        int[][] due = {{-1, -1, 32, 0, 0, 5}, {-1, -1, 16, 0, 0, 4}};
        for (int what = 0; what < 6; what++) {
            due(15, "ofLine(0, 0, " + what + ")", x.ofLine(0, 0, what), due[0][what]);
            due(15, "ofLine(0, 4, " + what + ")", x.ofLine(0, 4, what), due[1][what]);
        }
        x.clue(0, 0, 21);
        x.mark(0, 0, false);
        int[] forced = {21, 2, 1, 22, 8, 5};
        for (int what = 0; what < 6; what++) {
            due(15, "ofLine(0, 0, " + what + ") of 21", x.ofLine(0, 0, what), forced[what]);
        }
        x.clue(0, 0, 5);
        int[] broken = {5, 1, 0, 0, 0, 5};
        for (int what = 0; what < 6; what++) {
            due(15, "ofLine(0, 0, " + what + "), BROKEN", x.ofLine(0, 0, what), broken[what]);
        }
        x.clue(0, 8, 0);
        int[] none = {0, 0, 1, 0, 15, 4};
        for (int what = 0; what < 6; what++) {
            due(15, "ofLine(0, 8, " + what + ") of 0", x.ofLine(0, 8, what), none[what]);
        }
        due(15, "RUNS of 111", x.clue(0, 1, 111) + x.ofLine(0, 1, 1), 4);
        for (int board : new int[] {-1, 1, MIN, MAX}) {
            refuses(15, x, "ofLine(" + board + ", 0, 0)", INDEX, () -> x.ofLine(board, 0, 0));
        }
        for (int line : new int[] {-1, 9, MIN, MAX}) {
            refuses(15, x, "ofLine(0, " + line + ", 9)", INDEX, () -> x.ofLine(0, line, 9));
        }
        for (int what : new int[] {-1, 6, MIN, MAX}) {
            refuses(15, x, "ofLine(0, 0, " + what + ")", ARGUMENT, () -> x.ofLine(0, 0, what));
        }
    }

    private static void ways() {
        TesseraHall x = hallOf(5, 2);
        for (int nth = 0; nth < 32; nth++) {
            due(16, "way(0, 0, " + nth + ") of an OPEN LINE", x.way(0, 0, nth), nth);
        }
        due(16, "way(0, 0, 32)", x.way(0, 0, 32), -1);
        x.clue(0, 0, 11);
        int[] numbers = {5, 9, 10, 17, 18, 20, -1, -1};
        for (int nth = 0; nth < 8; nth++) {
            due(16, "way(0, 0, " + nth + ") of 11", x.way(0, 0, nth), numbers[nth]);
        }
        due(16, "way(0, 0, MAX)", x.way(0, 0, MAX), -1);
        due(16, "way(0, 6, 3)", x.way(0, 6, 3), 3);
        due(16, "way(0, 6, 4)", x.way(0, 6, 4), -1);
        x.mark(0, 0, true);
        due(16, "way(0, 0, 2)", x.way(0, 0, 2), 17);
        due(16, "way(0, 0, 3)", x.way(0, 0, 3), -1);
        x.clue(0, 0, 0);
        due(16, "way(0, 0, 0) of a BROKEN LINE", x.way(0, 0, 0), -1);
        for (int board : new int[] {-1, 1, MIN, MAX}) {
            refuses(16, x, "way(" + board + ", 0, 0)", INDEX, () -> x.way(board, 0, 0));
        }
        for (int line : new int[] {-1, 7, MIN, MAX}) {
            refuses(16, x, "way(0, " + line + ", -1)", INDEX, () -> x.way(0, line, -1));
        }
        for (int nth : new int[] {-1, MIN}) {
            refuses(16, x, "way(0, 0, " + nth + ")", ARGUMENT, () -> x.way(0, 0, nth));
        }
    }

    private static void ofBoards() {
        TesseraHall x = sixPictures();
        int[] first = {3, 3, 9, 0, 0, 0, 0, 6, 0, 0, 0};
        for (int what = 0; what <= 10; what++) {
            due(17, "ofBoard(0, " + what + ")", x.ofBoard(0, what), first[what]);
        }
        x.mark(0, 0, true);
        x.mark(0, 1, true);
        x.sweep(0);
        x.open(0, 5);
        x.guess(0, 4, false);
        // Left are the cells 5, 7 and 8: 5 and 7 are dark, and then 8 is light.
        int[] then = {3, 3, 3, 1, 0, 1, 1, 1, 1, 1, (1 << 5) + (1 << 7) + (1 << 8)};
        for (int what = 0; what <= 10; what++) {
            due(17, "ofBoard(0, " + what + ") then", x.ofBoard(0, what), then[what]);
        }
        x.clue(0, 0, 3);
        due(17, "BROKEN LINES", x.ofBoard(0, 4), 1);
        due(17, "COUNT of a BROKEN BOARD", x.ofBoard(0, 7), 0);
        due(17, "SETTLED of a BROKEN BOARD", x.ofBoard(0, 10), 0);
        settled();
        TesseraHall y = hallOf(3, 3);
        due(17, "COUNT of 512 PICTURES", y.ofBoard(0, 7), 500);
        // Row 0 counts ahead of all: of 512, the last twelve lack; none of the cells is the same in all others.
        due(17, "SETTLED of 500 of 512 PICTURES", y.ofBoard(0, 10), 0);
        y.mark(0, 8, true);
        due(17, "COUNT of 256 PICTURES", y.ofBoard(0, 7), 256);
        for (int board : new int[] {-1, 1, MIN, MAX}) {
            refuses(17, x, "ofBoard(" + board + ", 11)", INDEX, () -> x.ofBoard(board, 11));
        }
        for (int what : new int[] {-1, 11, MIN, MAX}) {
            refuses(17, x, "ofBoard(0, " + what + ")", ARGUMENT, () -> x.ofBoard(0, what));
        }
    }

    private static void settled() {
        TesseraHall x = sixPictures();
        x.mark(0, 8, true);
        due(17, "SETTLED of two PICTURES", x.ofBoard(0, 10), (1 << 2) + (1 << 5) + (1 << 6) + (1 << 7));
        TesseraHall y = hallOf(2, 3);
        y.clue(0, 3, 3);
        due(17, "SETTLED as DARK", y.ofBoard(0, 10), 0b010101);
        y.clue(0, 0, 0);
        due(17, "SETTLED without PICTURES, none BROKEN", y.ofBoard(0, 10), 0);
        due(17, "BROKEN LINES", y.ofBoard(0, 4), 0);
        y.clue(0, 3, 0);
        y.clue(0, 4, 2);
        y.clue(0, 1, 1);
        // The column 1 is dark in the row 1, and in one of its neighbours, of which the row 0 is light.
        due(17, "SETTLED as one PICTURE", y.ofBoard(0, 10), 0b111111);
        due(17, "COUNT", y.ofBoard(0, 7), 1);
        due(17, "the PICTURE", y.picture(0, 0), 0b101000);
    }

    private static void texts() {
        TesseraHall x = hallOf(5, 2);
        due(18, "text(0)", x.text(0), "?????/?????");
        x.paint(0, 1, 0b10110);
        x.mark(0, 0, true);
        x.mark(0, 4, false);
        due(18, "text(0)", x.text(0), "#???./.##.#");
        for (int board : new int[] {-1, 1, MIN, MAX}) {
            refuses(18, x, "text(" + board + ")", INDEX, () -> x.text(board));
        }
    }

    private static void pictures() {
        TesseraHall x = sixPictures();
        int[] sets = {0b100010001, 0b010100001, 0b100001010, 0b001100010, 0b010001100, 0b001010100, -1, -1};
        for (int nth = 0; nth < 8; nth++) {
            due(19, "picture(0, " + nth + ")", x.picture(0, nth), sets[nth]);
        }
        due(19, "picture(0, 499)", x.picture(0, 499), -1);
        TesseraHall y = hallOf(4, 5);
        due(19, "picture(0, 0) of an OPEN BOARD", y.picture(0, 0), 0);
        due(19, "picture(0, 1)", y.picture(0, 1), 1 << 16);
        due(19, "picture(0, 16)", y.picture(0, 16), 1 << 12);
        due(19, "picture(0, 499)", y.picture(0, 499), (499 / 256 << 8) + (499 / 16 % 16 << 12) + (499 % 16 << 16));
        y.clue(0, 0, 4);
        y.clue(0, 5, 0);
        due(19, "picture(0, 0) without any", y.picture(0, 0), -1);
        for (int board : new int[] {-1, 1, MIN, MAX}) {
            refuses(19, x, "picture(" + board + ", 500)", INDEX, () -> x.picture(board, 500));
        }
        for (int nth : new int[] {-1, 500, MIN, MAX}) {
            refuses(19, x, "picture(0, " + nth + ")", ARGUMENT, () -> x.picture(0, nth));
        }
    }

    private static void chances() {
        TesseraHall x = sixPictures();
        for (int cell = 0; cell < 9; cell++) {
            due(20, "chance(0, " + cell + ")", x.chance(0, cell), 2.0 / 6.0);
        }
        x.mark(0, 0, true);
        double[] then = {1.0, 0.0, 0.0, 0.0, 0.5, 0.5, 0.0, 0.5, 0.5};
        for (int cell = 0; cell < 9; cell++) {
            due(20, "chance(0, " + cell + ") then", x.chance(0, cell), then[cell]);
        }
        x.clue(0, 0, 3);
        due(20, "chance(0, 0) without PICTURES", x.chance(0, 0), 0.0);
        TesseraHall y = hallOf(3, 3);
        due(20, "chance(0, 0) in 500 of 512", y.chance(0, 0), 244.0 / 500.0);
        TesseraHall z = hallOf(2, 5);
        z.clue(0, 6, 4);
        z.turn(0, 2);
        due(20, "chance(0, 9) of 5 by 2", z.chance(0, 9), 0.5);
        due(20, "chance(0, 8) of 5 by 2", z.chance(0, 8), 1.0);
        for (int board : new int[] {-1, 1, MIN, MAX}) {
            refuses(20, x, "chance(" + board + ", 0)", INDEX, () -> x.chance(board, 0));
        }
        for (int cell : new int[] {-1, 9, MIN, MAX}) {
            refuses(20, x, "chance(0, " + cell + ")", INDEX, () -> x.chance(0, cell));
        }
    }

    private static void blurs() {
        TesseraHall x = sixPictures();
        due(21, "blur(0, 0)", x.blur(0, 0), 0.375);
        float third = 2f / 6f;
        float fog = 0f;
        for (int cell = 0; cell < 9; cell++) {
            fog += third;
        }
        due(21, "blur(0, 1)", x.blur(0, 1), (double) fog);
        x.mark(0, 0, true);
        // Line 0 and line 3 have one way of 2^2; the others keep 3 ways or 2, of 2^3 and 2^3.
        double sum = 1.0 / 4 + 3.0 / 8 + 3.0 / 8 + 1.0 / 4 + 3.0 / 8 + 3.0 / 8;
        due(21, "blur(0, 0) then", x.blur(0, 0), sum / 6);
        due(21, "blur(0, 1) then", x.blur(0, 1), 2.0);
        x.clue(0, 0, 3);
        due(21, "blur(0, 0), a LINE BROKEN less", x.blur(0, 0), (sum + 0.0) / 6);
        due(21, "blur(0, 1) without PICTURES", x.blur(0, 1), 0.0);
        x.clue(0, 0, 11);
        due(21, "blur(0, 1) without PICTURES", x.blur(0, 1), 0.0);
        TesseraHall w = hallOf(2, 3);
        w.clue(0, 1, 0);
        w.clue(0, 3, 1);
        // The column 0 has one of the rows 0 and 2, the column 1 any of both: shares of a half and of 0.
        due(21, "blur(0, 1) of halves", w.blur(0, 1), 2.0);
        TesseraHall v = hallOf(5, 2);
        v.clue(0, 0, 4);
        v.clue(0, 1, 0);
        // Two PICTURES: all but the last CELL, all but the first one.
        due(21, "blur(0, 1) of 4 in 5", v.blur(0, 1), 1.0);
        v.clue(0, 0, 3);
        due(21, "blur(0, 1) of 3 in 5", v.blur(0, 1), (double) fogOf(1f / 3, 2f / 3, 1f, 2f / 3, 1f / 3));
        TesseraHall y = hallOf(3, 3);
        due(21, "blur(0, 0) of an OPEN BOARD", y.blur(0, 0), 1.0);
        y.paint(0, 0, 1);
        y.paint(0, 1, 2);
        y.paint(0, 2, 3);
        due(21, "blur(0, 0) of a known BOARD", y.blur(0, 0), 1.0);
        due(21, "blur(0, 1) of a known BOARD", y.blur(0, 1), 0.0);
        for (int board : new int[] {-1, 1, MIN, MAX}) {
            refuses(21, x, "blur(" + board + ", 2)", INDEX, () -> x.blur(board, 2));
        }
        for (int what : new int[] {-1, 2, MIN, MAX}) {
            refuses(21, x, "blur(0, " + what + ")", ARGUMENT, () -> x.blur(0, what));
        }
    }

    private static float fogOf(float... shares) {
        float fog = 0f;
        for (float share : shares) {
            fog += Math.min(share, 1f - share);
        }
        return fog;
    }

    private static void manies() {
        TesseraHall x = hallOf(2, 2);
        x.board(3, 3);
        x.clue(0, 0, 0);
        x.clue(1, 0, 0);
        x.mark(0, 0, true);
        x.mark(1, 0, true);
        x.mark(1, 1, true);
        x.knock();
        x.guess(0, 3, true);
        x.guess(1, 3, true);
        x.guess(1, 4, true);
        int[] sums = {2, 1, 3, 4 + 9 - 3, 3};
        for (int what = 0; what <= 4; what++) {
            due(22, "many(" + what + ")", x.many(what), sums[what]);
        }
        for (int what : new int[] {-1, 5, MIN, MAX}) {
            refuses(22, x, "many(" + what + ")", ARGUMENT, () -> x.many(what));
        }
    }

    private static void hints() {
        TesseraHall x = hallOf(5, 5);
        due(23, "hint(0)", x.hint(0), -1);
        x.clue(0, 4, 3);
        due(23, "hint(0)", x.hint(0), 4);
        x.clue(0, 9, 4);
        due(23, "hint(0)", x.hint(0), 9);
        x.clue(0, 1, 4);
        due(23, "hint(0), of several the smallest", x.hint(0), 1);
        x.clue(0, 8, 0);
        due(23, "hint(0)", x.hint(0), 8);
        x.clue(0, 3, 22);
        due(23, "hint(0)", x.hint(0), 3);
        x.paint(0, 3, 0);
        due(23, "hint(0) without the BROKEN LINE", x.hint(0), 8);
        for (int board : new int[] {-1, 1, MIN, MAX}) {
            refuses(23, x, "hint(" + board + ")", INDEX, () -> x.hint(board));
        }
    }

    private static void tosses() {
        TesseraHall x = sixPictures();
        due(24, "toss(0)", x.toss(0), 0);
        x.mark(0, 0, true);
        due(24, "toss(0)", x.toss(0), 4);
        x.sweep(0);
        x.mark(0, 4, true);
        due(24, "toss(0)", x.toss(0), 5);
        x.sweep(0);
        due(24, "toss(0) without an UNKNOWN CELL", x.toss(0), -1);
        x.wipe(0);
        x.clue(0, 0, 3);
        due(24, "toss(0) without PICTURES", x.toss(0), -1);
        for (int board : new int[] {-1, 1, MIN, MAX}) {
            refuses(24, x, "toss(" + board + ")", INDEX, () -> x.toss(board));
        }
    }

    private static void woulds() {
        TesseraHall x = sixPictures();
        due(25, "would(0, 4, true, 0)", x.would(0, 4, true, 0), 4);
        due(25, "would(0, 4, true, 1)", x.would(0, 4, true, 1), 0);
        due(25, "would(0, 4, true, 2)", x.would(0, 4, true, 2), 2);
        due(25, "would(0, 4, false, 0)", x.would(0, 4, false, 0), 0);
        due(25, "would(0, 4, false, 2)", x.would(0, 4, false, 2), 4);
        x.mark(0, 0, true);
        due(25, "would(0, 4, true, 0)", x.would(0, 4, true, 0), 7);
        due(25, "would(0, 1, true, 1)", x.would(0, 1, true, 1), 1);
        due(25, "would(0, 1, true, 0)", x.would(0, 1, true, 0), 0);
        due(25, "would(0, 1, true, 2)", x.would(0, 1, true, 2), 0);
        due(25, "SWEEPS", x.ofBoard(0, 9), 0);
        due(25, "MISTAKES", x.ofBoard(0, 6), 0);
        due(25, "text(0)", x.text(0), "#??/???/???");
        for (int what = 0; what < 3; what++) {
            int asks = what;
            refuses(25, x, "would(0, 0, true, " + what + ")", STATE, () -> x.would(0, 0, true, asks));
            due(25, "nothing is changed", unchangedBy(x, asks), true);
        }
        for (int what : new int[] {-1, 3, MIN, MAX}) {
            refuses(25, x, "would(0, 0, true, " + what + ")", ARGUMENT, () -> x.would(0, 0, true, what));
        }
        for (int board : new int[] {-1, 1, MIN, MAX}) {
            refuses(25, x, "would(" + board + ", 0, true, 3)", INDEX, () -> x.would(board, 0, true, 3));
        }
        for (int cell : new int[] {-1, 9, MIN, MAX}) {
            refuses(25, x, "would(0, " + cell + ", true, 3)", INDEX, () -> x.would(0, cell, true, 3));
        }
        TesseraHall y = hallOf(5, 5);
        due(25, "would(0, 0, true, 2) of an OPEN BOARD", y.would(0, 0, true, 2), 500);
    }

    private static boolean unchangedBy(TesseraHall x, int what) {
        long before = x.digest();
        x.would(0, 4, true, what);
        x.would(0, 1, false, what);
        return x.digest() == before;
    }

    private static void needs() {
        TesseraHall x = sixPictures();
        due(26, "needs(0)", x.needs(0), 2);
        x.mark(0, 8, true);
        due(26, "needs(0) of two PICTURES", x.needs(0), 1);
        x.mark(0, 0, true);
        due(26, "needs(0) of one PICTURE", x.needs(0), 0);
        x.clue(0, 0, 3);
        due(26, "needs(0) without PICTURES", x.needs(0), -1);
        due(26, "needs(0) of an OPEN BOARD", hallOf(2, 2).needs(0), -1);
        TesseraHall y = hallOf(2, 2);
        y.clue(0, 0, 0);
        due(26, "needs(0) of four PICTURES", y.needs(0), 2);
        TesseraHall z = hallOf(5, 2);
        z.clue(0, 0, 4);
        z.clue(0, 1, 0);
        due(26, "needs(0): by the first CELL, or by the fifth", z.needs(0), 1);
        z.turn(0, 1);
        z.turn(0, 0);
        due(26, "needs(0): by the sixth CELL, or by the tenth", z.needs(0), 1);
        z.wipe(0);
        for (int line = 0; line < 7; line++) {
            z.open(0, line);
        }
        z.clue(0, 0, 0);
        for (int column = 0; column < 3; column++) {
            z.clue(0, 2 + column, 0);
        }
        due(26, "needs(0): by the ninth CELL and the tenth", z.needs(0), 2);
        for (int board : new int[] {-1, 1, MIN, MAX}) {
            refuses(26, x, "needs(" + board + ")", INDEX, () -> x.needs(board));
        }
    }

    private static void alikes() {
        TesseraHall x = readOff(SKEW);
        addReadOff(x, SKEW);
        due(27, "alike(0, 1)", x.alike(0, 1), 0);
        for (int turning = 0; turning < 8; turning++) {
            TesseraHall y = readOff(SKEW);
            addReadOff(y, SKEW);
            // In the order that is told: MIRROR first, HALF next, TILT last.
            if ((turning & 1) != 0) {
                y.turn(1, 1);
            }
            if ((turning & 2) != 0) {
                y.turn(1, 0);
            }
            if ((turning & 4) != 0) {
                y.turn(1, 2);
            }
            due(27, "alike(0, 1) by " + turning, y.alike(0, 1), turning);
            y.open(1, 0);
            due(27, "alike(0, 1), a CLUE less", y.alike(0, 1), -1);
        }
        x.turn(1, 2);
        due(27, "alike(0, 1) of other sizes", x.alike(0, 1), 4);
        x.board(2, 2);
        due(27, "alike(0, 2)", x.alike(0, 2), -1);
        due(27, "alike(2, 2), all OPEN", x.alike(2, 2), 0);
        for (int board : new int[] {-1, 3, MIN, MAX}) {
            refuses(27, x, "alike(" + board + ", 0)", INDEX, () -> x.alike(board, 0));
            refuses(27, x, "alike(0, " + board + ")", INDEX, () -> x.alike(0, board));
        }
        TesseraHall z = hallOf(2, 3);
        z.board(3, 2);
        due(27, "alike(0, 1) of OPEN BOARDS", z.alike(0, 1), 4);
        z.clue(0, 0, 0);
        due(27, "alike(0, 1), not OPEN", z.alike(0, 1), -1);
        z.clue(1, 4, 0);
        due(27, "alike(0, 1) by HALF and TILT", z.alike(0, 1), 6);
        // CELLS do not count, nor GUESSES.
        z.guess(1, 0, true);
        due(27, "alike(0, 1), CELLS known", z.alike(0, 1), 6);
        due(27, "alike(1, 0)", z.alike(1, 0), 5);
    }

    private static void digests() {
        TesseraHall x = sixPictures();
        due(28, "digest()", x.digest(), digestOf(x));
        x.board(5, 4);
        x.board(4, 5);
        x.guess(1, 7, true);
        x.clue(2, 3, 12);
        x.sweep(2);
        x.mark(0, 4, true);
        x.knock();
        due(28, "digest()", x.digest(), digestOf(x));
        due(28, "digest() again", x.digest(), digestOf(x));
        x.clue(2, 0, 4);
        x.clue(2, 5, 0);
        due(28, "digest() without PICTURES", x.digest(), digestOf(x));
    }

    private static long digestOf(TesseraHall x) {
        long d = 58319;
        for (int what = 0; what <= 4; what++) {
            d = d * 31 + x.many(what);
        }
        for (int b = 0; b < x.many(0); b++) {
            for (int what = 0; what <= 10; what++) {
                d = d * 31 + x.ofBoard(b, what);
            }
            for (int cell = 0; cell < x.ofBoard(b, 0) * x.ofBoard(b, 1); cell++) {
                for (int what = 0; what <= 3; what++) {
                    d = d * 31 + x.ofCell(b, cell, what);
                }
            }
            for (int line = 0; line < x.ofBoard(b, 0) + x.ofBoard(b, 1); line++) {
                for (int what = 0; what <= 5; what++) {
                    d = d * 31 + x.ofLine(b, line, what);
                }
                d = d * 31 + x.way(b, line, 0);
            }
            long[] last = {x.picture(b, 0), (long) (x.blur(b, 0) * 64), (long) (x.blur(b, 1) * 64), x.hint(b),
                x.toss(b), x.needs(b), x.alike(b, 0)};
            for (long v : last) {
                d = d * 31 + v;
            }
        }
        return d;
    }

    /** The LINES of both BOARDS have the same WAYS, by their numbers, and yet other PICTURES. */
    private static void sameWaysOtherSize() {
        TesseraHall x = hallOf(2, 3);
        int[] clues = {1, 1, 0, 2, 0};
        for (int line = 0; line < 5; line++) {
            x.clue(0, line, clues[line]);
        }
        x.mark(0, 4, false);
        due(19, "picture(0, 0) of 2 by 3", x.picture(0, 0), 0b000101);
        x.turn(0, 2);
        x.wipe(0);
        for (int line = 0; line < 5; line++) {
            x.clue(0, line, clues[line]);
        }
        x.mark(0, 2, false);
        x.mark(0, 5, false);
        due(19, "picture(0, 0) of 3 by 2", x.picture(0, 0), 0b010010);
        TesseraHall y = sixPictures();
        y.mark(0, 4, true);
        y.wipe(0);
        due(25, "would(0, 4, true, 2) behind a mark", y.would(0, 4, true, 2), 2);
    }

    /** What is only asked leaves no trace, and the same call answers the same again. */
    private static void changesNothing() {
        TesseraHall x = sixPictures();
        x.guess(0, 0, true);
        long before = x.digest();
        for (int n = 0; n < 2; n++) {
            due(24, "toss(0)", x.toss(0), 4);
            due(23, "hint(0)", x.hint(0), 0);
            due(26, "needs(0)", x.needs(0), 1);
            due(25, "would(0, 4, true, 0)", x.would(0, 4, true, 0), 7);
            due(19, "picture(0, 1)", x.picture(0, 1), 0b010100001);
            due(28, "digest()", x.digest(), before);
        }
        due(8, "back(0, false)", x.back(0, false), 0);
        due(17, "COUNT", x.ofBoard(0, 7), 6);
    }
}
