import java.util.function.Function;
import java.util.function.Supplier;

/**
 * How the tests of the boundary cases ask: sentence by sentence, each under the words of the document. They extend
 * it, so that they can call its methods by their bare names.
 */
abstract class Asking {
    static final Class<?> INDEX = IndexOutOfBoundsException.class;
    static final Class<?> ARGUMENT = IllegalArgumentException.class;
    static final Class<?> STATE = IllegalStateException.class;
    static final int NONE = -1;
    static final int MIN = Integer.MIN_VALUE;
    static final int MAX = Integer.MAX_VALUE;

    /** The RUNS that each number of a LINE shows, up to five CELLS. */
    static final int[] SHOWS = {
        0, 1, 1, 2, 1, 11, 2, 3, 1, 11, 11, 21, 2, 12, 3, 4, 1, 11, 11, 21, 11, 111, 21, 31, 2, 12, 12, 22, 3, 13, 4, 5};

    private static String words = "";
    private static int sentences = 0;
    private static int asked = 0;
    private static int wrong = 0;

    /** Tests a sentence of the document; a test that asks nothing is a wrong one. */
    static void sentence(String itsWords, Runnable test) {
        words = itsWords;
        sentences++;
        int before = asked;
        try {
            test.run();
        } catch (RuntimeException e) {
            wrong++;
            System.out.println("\"" + words + "\": the test ended with " + e);
        }
        if (asked == before) {
            wrong++;
            System.out.println("\"" + words + "\": nothing was asked");
        }
    }

    static void due(String call, Object got, Object want) {
        asked++;
        if (!want.equals(got)) {
            wrong++;
            System.out.println("\"" + words + "\": " + call + " answered " + got + ", due is " + want);
        }
    }

    /** Asks for just this exception, and that all stands behind it as in a twin that was not asked. */
    static void refused(String call, Class<?> want, Supplier<TesseraHall> made, Function<TesseraHall, Object> asks) {
        TesseraHall x = made.get();
        due(call, answer(x, asks), want);
        due("what stands behind the refused " + call, story(x), story(made.get()));
    }

    static Object answer(TesseraHall x, Function<TesseraHall, Object> asks) {
        try {
            return asks.apply(x);
        } catch (RuntimeException e) {
            return e.getClass();
        }
    }

    /** All that can be seen of a hall, and what its GUESSES have kept. It changes the hall. */
    private static String story(TesseraHall x) {
        StringBuilder story = new StringBuilder(sight(x));
        for (int board = 0; board < x.many(0); board++) {
            for (int left = x.ofBoard(board, 5); left > 0; left--) {
                story.append(" back to ").append(x.back(board, false)).append(' ').append(sight(x));
            }
        }
        return story.toString();
    }

    static String sight(TesseraHall x) {
        StringBuilder sight = new StringBuilder().append(x.digest());
        for (int board = 0; board < x.many(0); board++) {
            sight.append(' ').append(x.text(board));
        }
        return sight.toString();
    }

    /** What ofCell() tells of each CELL of a BOARD, so many numbers a CELL. */
    static String cells(TesseraHall x, int board) {
        StringBuilder told = new StringBuilder();
        for (int cell = 0; cell < x.ofBoard(board, 0) * x.ofBoard(board, 1); cell++) {
            for (int what = 0; what <= 3; what++) {
                told.append(x.ofCell(board, cell, what)).append(what < 3 ? "," : " ");
            }
        }
        return told.toString().trim();
    }

    static String cell(TesseraHall x, int board, int cell) {
        return cells(x, board).split(" ")[cell];
    }

    static void end() {
        System.out.println(sentences + " sentences, " + asked + " answers asked, " + wrong + " wrong");
        if (wrong > 0) {
            System.exit(1);
        }
    }

    // ---- halls to ask

    static TesseraHall hallOf(int wide, int high) {
        TesseraHall x = new TesseraHall();
        x.board(wide, high);
        return x;
    }

    /** A hall whose BOARD 0 has these CLUES, LINE by LINE; NONE leaves one OPEN. */
    static TesseraHall told(int wide, int high, int... clues) {
        TesseraHall x = hallOf(wide, high);
        tell(x, 0, clues);
        return x;
    }

    static void tell(TesseraHall x, int board, int... clues) {
        for (int line = 0; line < clues.length; line++) {
            if (clues[line] != NONE) {
                x.clue(board, line, clues[line]);
            }
        }
    }

    /** Six PICTURES: one DARK CELL in each row and column of 3 by 3. */
    static TesseraHall sixPictures() {
        return told(3, 3, 1, 1, 1, 1, 1, 1);
    }

    /** Makes a BOARD that shows these rows ("#" DARK, "." LIGHT), all of them painted. */
    static int paintNew(TesseraHall x, String... rows) {
        int board = x.board(rows[0].length(), rows.length);
        for (int row = 0; row < rows.length; row++) {
            x.paint(board, row, setOf(rows[row]));
        }
        return board;
    }

    static TesseraHall painted(String... rows) {
        TesseraHall x = new TesseraHall();
        paintNew(x, rows);
        return x;
    }

    static int setOf(String row) {
        int set = 0;
        for (int place = 0; place < row.length(); place++) {
            set += row.charAt(place) == '#' ? 1 << place : 0;
        }
        return set;
    }
}
