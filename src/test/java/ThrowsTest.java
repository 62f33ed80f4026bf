import java.util.function.BiFunction;

/**
 * The rows "Throws" of the promises 1 to 28: for each the last numbers that are refused and the first that are
 * taken, which of several exceptions is thrown, and that a refused call changes nothing.
 */
public final class ThrowsTest extends Asking {
    private static final int[] OTHER_THAN_0_OR_1 = {-1, 2, 3, 4, MIN, MAX};

    public static void main(String[] args) {
        boardsAreMade();
        guessed();
        turnedAndPainted();
        whatIsAsked();
        whatWouldBe();
        inOrder();
        end();
    }

    private static void boardsAreMade() {
        sentence("2: IllegalArgumentException if one of both is not 2 to 5", ThrowsTest::boardSizes);
        sentence("2: IllegalStateException if there are 3", ThrowsTest::fourthBoard);
        sentence("3: IndexOutOfBoundsException if there is no such BOARD, or LINE of it", ThrowsTest::clueNowhere);
        sentence("3: IllegalArgumentException if runs is below 0", ThrowsTest::clueBelowNone);
        sentence("3: .. has a digit 0 (but 0 alone)", ThrowsTest::clueWithADigit0);
        sentence("3: .. or the sum of its digits, and one less than how many there are, together are more than LENGTH",
                ThrowsTest::clueTooLong);
        sentence("4: IndexOutOfBoundsException if there is no such BOARD, or LINE of it", ThrowsTest::openNowhere);
        sentence("5: IndexOutOfBoundsException if there is no such BOARD, or CELL of it", ThrowsTest::markNowhere);
        sentence("5: IllegalStateException if it is not UNKNOWN", ThrowsTest::markOfAKnownOne);
        sentence("6: IndexOutOfBoundsException if there is no such BOARD",
                () -> boardsBut("sweep", (x, board) -> x.sweep(board)));
    }

    private static void guessed() {
        sentence("7: IndexOutOfBoundsException if there is no such BOARD, or CELL of it", ThrowsTest::guessNowhere);
        sentence("7: IllegalStateException if it is not UNKNOWN", ThrowsTest::guessOfAKnownOne);
        sentence("7: .. or 6 GUESSES stand", ThrowsTest::seventhGuess);
        sentence("8: IndexOutOfBoundsException if there is no such BOARD", ThrowsTest::backNowhere);
        sentence("8: IllegalStateException if no GUESS stands", ThrowsTest::backWithoutAGuess);
    }

    private static void turnedAndPainted() {
        sentence("9: IndexOutOfBoundsException if there is no such BOARD",
                () -> boardsBut("turn", (x, board) -> x.turn(board, 0)));
        sentence("9: IllegalArgumentException if how is not 0 to 2", ThrowsTest::turnByNothing);
        sentence("9: IllegalStateException if a GUESS stands", ThrowsTest::turnUponAGuess);
        sentence("10: IndexOutOfBoundsException if there is no such BOARD, or row of it", ThrowsTest::paintNowhere);
        sentence("10: IllegalArgumentException if set has another number than 0 to WIDE less 1, or is below 0",
                ThrowsTest::paintTooFar);
        sentence("10: IllegalStateException if a GUESS stands", ThrowsTest::paintUponAGuess);
        sentence("11: IndexOutOfBoundsException if there is no such BOARD",
                () -> boardsBut("read", (x, board) -> x.read(board)));
        sentence("11: IllegalStateException if a GUESS stands, or a CELL is UNKNOWN", ThrowsTest::readTooEarly);
        sentence("12: IndexOutOfBoundsException if there is no such BOARD",
                () -> boardsBut("wipe", (x, board) -> x.wipe(board)));
    }

    private static void whatIsAsked() {
        sentence("14: IndexOutOfBoundsException if there is no such BOARD, or CELL of it", ThrowsTest::ofCellNowhere);
        sentence("14: IllegalArgumentException if what is not 0 to 3",
                () -> whatsBut("ofCell(0, 0, what)", 3, (x, what) -> x.ofCell(0, 0, what)));
        sentence("15: IndexOutOfBoundsException if there is no such BOARD, or LINE of it", ThrowsTest::ofLineNowhere);
        sentence("15: IllegalArgumentException if what is not 0 to 5",
                () -> whatsBut("ofLine(0, 0, what)", 5, (x, what) -> x.ofLine(0, 0, what)));
        sentence("16: IndexOutOfBoundsException if there is no such BOARD, or LINE of it", ThrowsTest::wayNowhere);
        sentence("16: IllegalArgumentException if nth is below 0", ThrowsTest::wayBelow0);
        sentence("17: IndexOutOfBoundsException if there is no such BOARD",
                () -> boardsBut("ofBoard", (x, board) -> x.ofBoard(board, 0)));
        sentence("17: IllegalArgumentException if what is not 0 to 10",
                () -> whatsBut("ofBoard(0, what)", 10, (x, what) -> x.ofBoard(0, what)));
        sentence("18: IndexOutOfBoundsException if there is no such BOARD",
                () -> boardsBut("text", (x, board) -> x.text(board)));
        sentence("19: IndexOutOfBoundsException if there is no such BOARD",
                () -> boardsBut("picture", (x, board) -> x.picture(board, 0)));
        sentence("19: IllegalArgumentException if nth is not 0 to 499",
                () -> whatsBut("picture(0, nth)", 499, (x, nth) -> x.picture(0, nth)));
        sentence("20: IndexOutOfBoundsException if there is no such BOARD, or CELL of it", ThrowsTest::chanceNowhere);
        sentence("21: IndexOutOfBoundsException if there is no such BOARD",
                () -> boardsBut("blur", (x, board) -> x.blur(board, 0)));
        sentence("21: IllegalArgumentException if what is not 0 or 1",
                () -> whatsBut("blur(0, what)", 1, (x, what) -> x.blur(0, what)));
        sentence("22: IllegalArgumentException if what is not 0 to 4",
                () -> whatsBut("many(what)", 4, (x, what) -> x.many(what)));
    }

    private static void whatWouldBe() {
        sentence("23: IndexOutOfBoundsException if there is no such BOARD",
                () -> boardsBut("hint", (x, board) -> x.hint(board)));
        sentence("24: IndexOutOfBoundsException if there is no such BOARD",
                () -> boardsBut("toss", (x, board) -> x.toss(board)));
        sentence("25: IndexOutOfBoundsException if there is no such BOARD, or CELL of it", ThrowsTest::wouldNowhere);
        sentence("25: IllegalArgumentException if what is not 0 to 2",
                () -> whatsBut("would(0, 0, true, what)", 2, (x, what) -> x.would(0, 0, true, what)));
        sentence("25: IllegalStateException if it is not UNKNOWN", ThrowsTest::wouldOfAKnownOne);
        sentence("26: IndexOutOfBoundsException if there is no such BOARD",
                () -> boardsBut("needs", (x, board) -> x.needs(board)));
        sentence("27: IndexOutOfBoundsException if there is no such BOARD, of both", ThrowsTest::alikeNowhere);
        sentence("1, 13, 28: a new hall, knock() and digest() throw nothing", ThrowsTest::throwNothing);
    }

    private static void inOrder() {
        sentence("If several exceptions apply, the one that is named first is thrown", ThrowsTest::firstNamed);
        sentence("A method that throws an exception changes nothing", ThrowsTest::nothingIsChanged);
    }

    // ---- halls, and what is refused and taken

    /**
     * The BOARD 0, 4 by 3, has CELLS of each REASON, UNKNOWN ones (0, 2, 6 and 10), a MISTAKE and no GUESS; on the
     * BOARD 1, 3 by 3, two GUESSES stand (0 and 4), and 5, 7 and 8 are UNKNOWN.
     */
    private static TesseraHall busy() {
        TesseraHall x = told(4, 3, NONE, 2, NONE, NONE, 3, NONE, 1);
        x.guess(0, 8, true);
        x.back(0, true);
        x.sweep(0);
        x.mark(0, 3, true);
        x.mark(0, 4, true);
        x.mark(0, 6, true);
        x.board(3, 3);
        tell(x, 1, 1, 1, 1, 1, 1, 1);
        x.guess(1, 0, true);
        x.sweep(1);
        x.guess(1, 4, false);
        x.knock();
        return x;
    }

    private static TesseraHall full() {
        TesseraHall x = busy();
        x.board(5, 5);
        return x;
    }

    /** Six GUESSES stand on the BOARD 0, 3 by 3; 6, 7 and 8 are UNKNOWN. */
    private static TesseraHall sixGuesses() {
        TesseraHall x = hallOf(3, 3);
        for (int cell = 0; cell < 6; cell++) {
            x.guess(0, cell, cell % 2 == 0);
        }
        return x;
    }

    /** All CELLS of the BOARD 0 are known, and a GUESS stands. */
    private static TesseraHall guessedToTheEnd() {
        TesseraHall x = told(2, 2, 1, 1, 1, 1);
        x.guess(0, 0, true);
        x.sweep(0);
        return x;
    }

    private static void boardsBut(String call, BiFunction<TesseraHall, Integer, Object> asks) {
        for (int board : OTHER_THAN_0_OR_1) {
            refused(call + " on the BOARD " + board, INDEX, ThrowsTest::busy, x -> asks.apply(x, board));
        }
        refused(call + " on the BOARD 0 of none", INDEX, TesseraHall::new, x -> asks.apply(x, 0));
        refused(call + " on the BOARD 3 of three", INDEX, ThrowsTest::full, x -> asks.apply(x, 3));
    }

    private static void linesBut(String call, BiFunction<TesseraHall, Integer, Object> asks) {
        for (int line : new int[] {-1, 7, 8, 12, MIN, MAX}) {
            refused(call + " on the LINE " + line, INDEX, ThrowsTest::busy, x -> asks.apply(x, line));
        }
        taken(call + " on the LINE 0", asks, 0);
        taken(call + " on the LINE 6, the last one", asks, 6);
    }

    private static void cellsBut(String call, BiFunction<TesseraHall, Integer, Object> asks, int last) {
        for (int cell : new int[] {-1, 12, 13, 24, 25, MIN, MAX}) {
            refused(call + " on the CELL " + cell, INDEX, ThrowsTest::busy, x -> asks.apply(x, cell));
        }
        taken(call + " on the CELL 0", asks, 0);
        taken(call + " on the CELL " + last, asks, last);
    }

    private static void whatsBut(String call, int last, BiFunction<TesseraHall, Integer, Object> asks) {
        for (int what : new int[] {-1, last + 1, last + 2, MIN, MAX}) {
            refused(call + " of " + what, ARGUMENT, ThrowsTest::busy, x -> asks.apply(x, what));
        }
        for (int what = 0; what <= last && what <= 10; what++) {
            taken(call + " of " + what, asks, what);
        }
        taken(call + " of " + last, asks, last);
    }

    private static void taken(String call, BiFunction<TesseraHall, Integer, Object> asks, int argument) {
        due(call + " is taken", answer(busy(), x -> asks.apply(x, argument)) instanceof Class, false);
    }

    // ---- boards are made

    private static void boardSizes() {
        for (int bad : new int[] {1, 6, 0, 7, -1, -2, MIN, MAX}) {
            for (int good = 2; good <= 5; good++) {
                int right = good;
                refused("board(" + bad + ", " + right + ")", ARGUMENT, ThrowsTest::busy, x -> x.board(bad, right));
                refused("board(" + right + ", " + bad + ")", ARGUMENT, ThrowsTest::busy, x -> x.board(right, bad));
            }
            refused("board(" + bad + ", " + bad + ")", ARGUMENT, ThrowsTest::busy, x -> x.board(bad, bad));
        }
        due("board(2, 2)", answer(busy(), x -> x.board(2, 2)), 2);
        due("board(5, 5)", answer(busy(), x -> x.board(5, 5)), 2);
    }

    private static void fourthBoard() {
        refused("board(2, 2) of three", STATE, ThrowsTest::full, x -> x.board(2, 2));
        refused("board(5, 5) of three", STATE, ThrowsTest::full, x -> x.board(5, 5));
        due("board(5, 5) of two", answer(busy(), x -> x.board(5, 5)), 2);
    }

    private static void clueNowhere() {
        boardsBut("clue(.., 0, 1)", (x, board) -> x.clue(board, 0, 1));
        linesBut("clue(0, .., 1)", (x, line) -> x.clue(0, line, 1));
    }

    private static void clueBelowNone() {
        for (int runs : new int[] {-1, -2, -11, -100, MIN, MIN + 1}) {
            refused("clue(0, 0, " + runs + ")", ARGUMENT, ThrowsTest::busy, x -> x.clue(0, 0, runs));
        }
        due("clue(0, 0, 0)", answer(busy(), x -> x.clue(0, 0, 0)), 0);
    }

    private static void clueWithADigit0() {
        for (int runs : new int[] {10, 20, 30, 100, 101, 102, 201, 110, 120, 1000, 1001, 1010, 100_000, 1_000_000_000}) {
            refused("clue(2, 0, " + runs + ")", ARGUMENT, ThrowsTest::full, x -> x.clue(2, 0, runs));
        }
        due("clue(2, 0, 0)", answer(full(), x -> x.clue(2, 0, 0)), 1);
    }

    private static void clueTooLong() {
        for (int length = 2; length <= 5; length++) {
            TesseraHall row = hallOf(length, 2);
            TesseraHall column = hallOf(2, length);
            int last = length + 1;
            // Just those are taken that a LINE of this LENGTH can show.
            for (int runs = 0; runs <= 130; runs++) {
                int clue = runs;
                boolean isRight = isShown(clue, length);
                due("clue(0, 0, " + clue + ") of " + length, answer(row, x -> x.clue(0, 0, clue)) != ARGUMENT, isRight);
                due("clue(0, last, " + clue + ") of " + length,
                        answer(column, x -> x.clue(0, last, clue)) != ARGUMENT, isRight);
            }
        }
        int[] tooLong = {6, 9, 14, 15, 23, 32, 41, 51, 112, 121, 211, 222, 1111, 11111, 99999, 1_111_111_111, MAX};
        for (int runs : tooLong) {
            refused("clue(2, 0, " + runs + ")", ARGUMENT, ThrowsTest::full, x -> x.clue(2, 0, runs));
            refused("clue(2, 9, " + runs + ")", ARGUMENT, ThrowsTest::full, x -> x.clue(2, 9, runs));
        }
        // On 4 by 3 a row takes 4, a column does not.
        due("clue(0, 2, 4)", answer(busy(), x -> x.clue(0, 2, 4)) instanceof Class, false);
        refused("clue(0, 3, 4)", ARGUMENT, ThrowsTest::busy, x -> x.clue(0, 3, 4));
        refused("clue(0, 2, 5)", ARGUMENT, ThrowsTest::busy, x -> x.clue(0, 2, 5));
    }

    private static boolean isShown(int clue, int length) {
        for (int number = 0; number < 1 << length; number++) {
            if (SHOWS[number] == clue) {
                return true;
            }
        }
        return false;
    }

    private static void openNowhere() {
        boardsBut("open(.., 0)", (x, board) -> x.open(board, 0));
        linesBut("open(0, ..)", (x, line) -> x.open(0, line));
    }

    private static void markNowhere() {
        boardsBut("mark(.., 0, true)", (x, board) -> x.mark(board, 0, true));
        cellsBut("mark(0, .., true)", (x, cell) -> x.mark(0, cell, true), 10);
    }

    private static void markOfAKnownOne() {
        // Swept as DARK and as LIGHT, marked, told WRONG.
        for (int cell : new int[] {1, 7, 3, 4, 8}) {
            refused("mark(0, " + cell + ", true)", STATE, ThrowsTest::busy, x -> x.mark(0, cell, true));
            refused("mark(0, " + cell + ", false)", STATE, ThrowsTest::busy, x -> x.mark(0, cell, false));
        }
        refused("mark(1, 4, true) of a guessed one", STATE, ThrowsTest::busy, x -> x.mark(1, 4, true));
        due("mark(0, 6, false) behind its MISTAKE", answer(busy(), x -> x.mark(0, 6, false)), true);
    }

    // ---- guessed

    private static void guessNowhere() {
        boardsBut("guess(.., 0, true)", (x, board) -> x.guess(board, 0, true));
        cellsBut("guess(0, .., true)", (x, cell) -> x.guess(0, cell, true), 10);
    }

    private static void guessOfAKnownOne() {
        for (int cell : new int[] {1, 7, 3, 4, 8}) {
            refused("guess(0, " + cell + ", true)", STATE, ThrowsTest::busy, x -> x.guess(0, cell, true));
            refused("guess(0, " + cell + ", false)", STATE, ThrowsTest::busy, x -> x.guess(0, cell, false));
        }
        refused("guess(1, 4, true) of a guessed one", STATE, ThrowsTest::busy, x -> x.guess(1, 4, true));
        refused("guess(1, 4, false) of a guessed one", STATE, ThrowsTest::busy, x -> x.guess(1, 4, false));
    }

    private static void seventhGuess() {
        refused("guess(0, 6, true), the seventh", STATE, ThrowsTest::sixGuesses, x -> x.guess(0, 6, true));
        refused("guess(0, 8, false), the seventh", STATE, ThrowsTest::sixGuesses, x -> x.guess(0, 8, false));
        refused("guess(0, 0, true), known, too", STATE, ThrowsTest::sixGuesses, x -> x.guess(0, 0, true));
        TesseraHall x = sixGuesses();
        x.back(0, false);
        due("guess(0, 8, true), the sixth", x.guess(0, 8, true), 6);
    }

    private static void backNowhere() {
        boardsBut("back(.., true)", (x, board) -> x.back(board, true));
        boardsBut("back(.., false)", (x, board) -> x.back(board, false));
    }

    private static void backWithoutAGuess() {
        refused("back(0, true)", STATE, ThrowsTest::busy, x -> x.back(0, true));
        refused("back(0, false)", STATE, ThrowsTest::busy, x -> x.back(0, false));
        refused("back(0, true) of a new BOARD", STATE, () -> hallOf(2, 2), x -> x.back(0, true));
        TesseraHall x = busy();
        x.back(1, true);
        due("back(1, true), the last one", x.back(1, true), 0);
        due("back(1, true), none left", answer(x, y -> y.back(1, true)), STATE);
    }

    // ---- turned and painted

    private static void turnByNothing() {
        for (int how : new int[] {-1, 3, 4, 7, MIN, MAX}) {
            refused("turn(0, " + how + ")", ARGUMENT, ThrowsTest::busy, x -> x.turn(0, how));
        }
        due("turn(0, 0)", answer(busy(), x -> x.turn(0, 0)), 4);
        due("turn(0, 2)", answer(busy(), x -> x.turn(0, 2)), 3);
    }

    private static void turnUponAGuess() {
        for (int how = 0; how <= 2; how++) {
            int by = how;
            refused("turn(1, " + by + ")", STATE, ThrowsTest::busy, x -> x.turn(1, by));
            refused("turn(0, " + by + ")", STATE, ThrowsTest::sixGuesses, x -> x.turn(0, by));
            refused("turn(0, " + by + ")", STATE, ThrowsTest::guessedToTheEnd, x -> x.turn(0, by));
        }
    }

    private static void paintNowhere() {
        boardsBut("paint(.., 0, 0)", (x, board) -> x.paint(board, 0, 0));
        for (int row : new int[] {-1, 3, 4, 6, MIN, MAX}) {
            refused("paint(0, " + row + ", 0)", INDEX, ThrowsTest::busy, x -> x.paint(0, row, 0));
        }
        due("paint(0, 2, 0), the last row", answer(busy(), x -> x.paint(0, 2, 0)), 4);
        due("paint(0, 0, 0)", answer(busy(), x -> x.paint(0, 0, 0)), 3);
    }

    private static void paintTooFar() {
        for (int set : new int[] {16, 17, 31, 32, 1 << 30, -1, -16, MIN, MAX}) {
            refused("paint(0, 0, " + set + ") of 4", ARGUMENT, ThrowsTest::busy, x -> x.paint(0, 0, set));
        }
        for (int set : new int[] {32, 33, 63, 64, 1 << 30, -1, -32, MIN, MAX}) {
            refused("paint(2, 4, " + set + ") of 5", ARGUMENT, ThrowsTest::full, x -> x.paint(2, 4, set));
        }
        for (int wide = 2; wide <= 5; wide++) {
            int first = 1 << wide;
            due("paint(0, 0, " + (first - 1) + ")", hallOf(wide, 2).paint(0, 0, first - 1), wide);
            due("paint(0, 0, " + first + ")", answer(hallOf(wide, 2), x -> x.paint(0, 0, first)), ARGUMENT);
        }
    }

    private static void paintUponAGuess() {
        refused("paint(1, 0, 0)", STATE, ThrowsTest::busy, x -> x.paint(1, 0, 0));
        refused("paint(1, 2, 7)", STATE, ThrowsTest::busy, x -> x.paint(1, 2, 7));
        refused("paint(0, 0, 1), as it is", STATE, ThrowsTest::guessedToTheEnd, x -> x.paint(0, 0, 1));
    }

    private static void readTooEarly() {
        refused("read(0) with UNKNOWN CELLS", STATE, ThrowsTest::busy, x -> x.read(0));
        refused("read(1) upon GUESSES, with UNKNOWN CELLS", STATE, ThrowsTest::busy, x -> x.read(1));
        refused("read(0) upon a GUESS, all known", STATE, ThrowsTest::guessedToTheEnd, x -> x.read(0));
        for (int cell = 0; cell < 6; cell++) {
            int left = cell;
            refused("read(0), but " + cell + " UNKNOWN", STATE, () -> knownBut(left), x -> x.read(0));
        }
        due("read(0), all known", knownBut(NONE).read(0), 5);
    }

    /** All CELLS of 3 by 2 are DARK but this one, which is UNKNOWN. */
    private static TesseraHall knownBut(int left) {
        TesseraHall x = hallOf(3, 2);
        for (int cell = 0; cell < 6; cell++) {
            if (cell != left) {
                x.mark(0, cell, true);
            }
        }
        return x;
    }

    // ---- what is asked

    private static void ofCellNowhere() {
        boardsBut("ofCell(.., 0, 0)", (x, board) -> x.ofCell(board, 0, 0));
        cellsBut("ofCell(0, .., 0)", (x, cell) -> x.ofCell(0, cell, 0), 11);
    }

    private static void ofLineNowhere() {
        boardsBut("ofLine(.., 0, 0)", (x, board) -> x.ofLine(board, 0, 0));
        linesBut("ofLine(0, .., 0)", (x, line) -> x.ofLine(0, line, 0));
    }

    private static void wayNowhere() {
        boardsBut("way(.., 0, 0)", (x, board) -> x.way(board, 0, 0));
        linesBut("way(0, .., 0)", (x, line) -> x.way(0, line, 0));
    }

    private static void wayBelow0() {
        for (int nth : new int[] {-1, -2, MIN}) {
            refused("way(0, 0, " + nth + ")", ARGUMENT, ThrowsTest::busy, x -> x.way(0, 0, nth));
        }
        due("way(0, 2, 0)", busy().way(0, 2, 0), 2);
        due("way(0, 2, MAX)", busy().way(0, 2, MAX), NONE);
    }

    private static void chanceNowhere() {
        boardsBut("chance(.., 0)", (x, board) -> x.chance(board, 0));
        cellsBut("chance(0, ..)", (x, cell) -> x.chance(0, cell), 11);
    }

    // ---- what would be

    private static void wouldNowhere() {
        for (int what = 0; what <= 2; what++) {
            int asked = what;
            boardsBut("would(.., 0, true, " + what + ")", (x, board) -> x.would(board, 0, true, asked));
            cellsBut("would(0, .., true, " + what + ")", (x, cell) -> x.would(0, cell, true, asked), 10);
        }
    }

    private static void wouldOfAKnownOne() {
        for (int what = 0; what <= 2; what++) {
            int asked = what;
            for (int cell : new int[] {1, 7, 3, 4, 8}) {
                refused("would(0, " + cell + ", true, " + what + ")", STATE, ThrowsTest::busy,
                        x -> x.would(0, cell, true, asked));
                refused("would(0, " + cell + ", false, " + what + ")", STATE, ThrowsTest::busy,
                        x -> x.would(0, cell, false, asked));
            }
            refused("would(1, 4, false, " + what + ")", STATE, ThrowsTest::busy, x -> x.would(1, 4, false, asked));
        }
    }

    private static void alikeNowhere() {
        boardsBut("alike(.., 0)", (x, board) -> x.alike(board, 0));
        boardsBut("alike(0, ..)", (x, board) -> x.alike(0, board));
        boardsBut("alike(.., ..)", (x, board) -> x.alike(board, board));
        due("alike(1, 1)", busy().alike(1, 1), 0);
    }

    private static void throwNothing() {
        due("knock() without BOARDS", new TesseraHall().knock(), 1);
        due("knock() of three", answer(full(), x -> x.knock()), 2);
        due("digest() without BOARDS", answer(new TesseraHall(), x -> x.digest()) instanceof Long, true);
        due("digest() of three", answer(full(), x -> x.digest()) instanceof Long, true);
    }

    // ---- in their order

    private static void firstNamed() {
        refused("board(1, 2) of three", ARGUMENT, ThrowsTest::full, x -> x.board(1, 2));
        refused("board(2, 6) of three", ARGUMENT, ThrowsTest::full, x -> x.board(2, 6));
        refused("clue(2, 0, -1)", INDEX, ThrowsTest::busy, x -> x.clue(2, 0, -1));
        refused("clue(0, 7, 10)", INDEX, ThrowsTest::busy, x -> x.clue(0, 7, 10));
        refused("clue(0, -1, 99)", INDEX, ThrowsTest::busy, x -> x.clue(0, -1, 99));
        refused("guess(1, 6, true) upon six", INDEX, ThrowsTest::sixGuesses, x -> x.guess(1, 6, true));
        refused("guess(0, 9, true) upon six", INDEX, ThrowsTest::sixGuesses, x -> x.guess(0, 9, true));
        refused("guess(0, -1, true) upon six", INDEX, ThrowsTest::sixGuesses, x -> x.guess(0, -1, true));
        refused("turn(2, 3)", INDEX, ThrowsTest::busy, x -> x.turn(2, 3));
        refused("turn(-1, -1)", INDEX, ThrowsTest::busy, x -> x.turn(-1, -1));
        refused("turn(1, 3) upon a GUESS", ARGUMENT, ThrowsTest::busy, x -> x.turn(1, 3));
        refused("turn(1, -1) upon a GUESS", ARGUMENT, ThrowsTest::busy, x -> x.turn(1, -1));
        refused("paint(2, 0, 16)", INDEX, ThrowsTest::busy, x -> x.paint(2, 0, 16));
        refused("paint(0, 3, 16)", INDEX, ThrowsTest::busy, x -> x.paint(0, 3, 16));
        refused("paint(0, -1, -1)", INDEX, ThrowsTest::busy, x -> x.paint(0, -1, -1));
        refused("paint(1, 3, 8) upon a GUESS", INDEX, ThrowsTest::busy, x -> x.paint(1, 3, 8));
        refused("paint(1, 3, 0) upon a GUESS", INDEX, ThrowsTest::busy, x -> x.paint(1, 3, 0));
        refused("paint(1, 0, 8) upon a GUESS", ARGUMENT, ThrowsTest::busy, x -> x.paint(1, 0, 8));
        refused("paint(1, 0, -1) upon a GUESS", ARGUMENT, ThrowsTest::busy, x -> x.paint(1, 0, -1));
        askedInOrder();
    }

    private static void askedInOrder() {
        refused("ofCell(2, 0, 4)", INDEX, ThrowsTest::busy, x -> x.ofCell(2, 0, 4));
        refused("ofCell(0, 12, 4)", INDEX, ThrowsTest::busy, x -> x.ofCell(0, 12, 4));
        refused("ofCell(0, -1, -1)", INDEX, ThrowsTest::busy, x -> x.ofCell(0, -1, -1));
        refused("ofLine(2, 0, 6)", INDEX, ThrowsTest::busy, x -> x.ofLine(2, 0, 6));
        refused("ofLine(0, 7, 6)", INDEX, ThrowsTest::busy, x -> x.ofLine(0, 7, 6));
        refused("way(2, 0, -1)", INDEX, ThrowsTest::busy, x -> x.way(2, 0, -1));
        refused("way(0, 7, -1)", INDEX, ThrowsTest::busy, x -> x.way(0, 7, -1));
        refused("ofBoard(2, 11)", INDEX, ThrowsTest::busy, x -> x.ofBoard(2, 11));
        refused("ofBoard(-1, -1)", INDEX, ThrowsTest::busy, x -> x.ofBoard(-1, -1));
        refused("picture(2, 500)", INDEX, ThrowsTest::busy, x -> x.picture(2, 500));
        refused("picture(-1, -1)", INDEX, ThrowsTest::busy, x -> x.picture(-1, -1));
        refused("blur(2, 2)", INDEX, ThrowsTest::busy, x -> x.blur(2, 2));
        refused("blur(-1, -1)", INDEX, ThrowsTest::busy, x -> x.blur(-1, -1));
        refused("would(2, 0, true, 3)", INDEX, ThrowsTest::busy, x -> x.would(2, 0, true, 3));
        refused("would(0, 12, true, 3)", INDEX, ThrowsTest::busy, x -> x.would(0, 12, true, 3));
        refused("would(0, 1, true, 3) of a known one", ARGUMENT, ThrowsTest::busy, x -> x.would(0, 1, true, 3));
        refused("would(0, 1, true, -1) of a known one", ARGUMENT, ThrowsTest::busy, x -> x.would(0, 1, true, -1));
    }

    /** Each refused call of this test was compared with a twin; here many of them follow one another. */
    private static void nothingIsChanged() {
        TesseraHall x = full();
        String before = sight(x);
        due("board(2, 2)", answer(x, y -> y.board(2, 2)), STATE);
        due("clue(0, 0, 10)", answer(x, y -> y.clue(0, 0, 10)), ARGUMENT);
        due("open(0, 7)", answer(x, y -> y.open(0, 7)), INDEX);
        due("mark(0, 1, false)", answer(x, y -> y.mark(0, 1, false)), STATE);
        due("sweep(3)", answer(x, y -> y.sweep(3)), INDEX);
        due("guess(1, 0, false)", answer(x, y -> y.guess(1, 0, false)), STATE);
        due("back(0, true)", answer(x, y -> y.back(0, true)), STATE);
        due("turn(1, 2)", answer(x, y -> y.turn(1, 2)), STATE);
        due("paint(1, 0, 0)", answer(x, y -> y.paint(1, 0, 0)), STATE);
        due("read(0)", answer(x, y -> y.read(0)), STATE);
        due("wipe(-1)", answer(x, y -> y.wipe(-1)), INDEX);
        due("would(0, 1, true, 0)", answer(x, y -> y.would(0, 1, true, 0)), STATE);
        due("all that is seen", sight(x), before);
        due("back(1, false)", x.back(1, false), 4);
        due("text(1)", x.text(1), "#../.??/.??");
        due("back(1, false)", x.back(1, false), 0);
        due("text(1)", x.text(1), "???/???/???");
    }
}
