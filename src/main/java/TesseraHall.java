/**
 * A hall in which pictures of dark and light cells are told by the lengths of dark runs, and found again.
 *
 * <p>Throughout, a set of WAYS is an int whose bit n stands for the WAY with the number n: a LINE has at most
 * five CELLS, so its numbers are 0 to 31, and narrowing a LINE is one AND.
 */
public final class TesseraHall {
    private static final int NONE = -1;

    private static final int MOST_BOARDS = 3;
    private static final int SHORTEST = 2;
    private static final int LONGEST = 5;
    private static final int MOST_CELLS = 25;
    private static final int MOST_LINES = 10;
    private static final int MOST_GUESSES = 6;
    private static final int MOST_PICTURES = 500;

    private static final int UNKNOWN = 0;
    private static final int DARK = 1;
    private static final int LIGHT = 2;

    /** What is held of a CELL, numbered as ofCell() asks for it. */
    private static final int STATE = 0;
    private static final int REASON = 1;
    private static final int ROUND = 2;
    private static final int DEPTH = 3;
    private static final int ASPECTS = 4;

    private static final int BY_HAND = -1;
    private static final int BY_WRONG_GUESS = -2;

    private static final int HALF = 0;
    private static final int MIRROR = 1;
    private static final int TILT = 2;

    /** The CLUE that a LINE with this number shows. */
    private static final int[] SHOWN = {
        0, 1, 1, 2, 1, 11, 2, 3, 1, 11, 11, 21, 2, 12, 3, 4,
        1, 11, 11, 21, 11, 111, 21, 31, 2, 12, 12, 22, 3, 13, 4, 5
    };

    /** For each place the set of all numbers that are DARK there. */
    private static final int[] DARK_AT = {0xAAAAAAAA, 0xCCCCCCCC, 0xF0F0F0F0, 0xFF00FF00, 0xFFFF0000};

    private final Board[] boards = new Board[MOST_BOARDS];
    private final Grid trial = new Grid(SHORTEST, SHORTEST);
    private final Album trialAlbum = new Album();
    private int boardCount;
    private int refused;

    public TesseraHall() {
        boardCount = 0;
        refused = 0;
    }

    // ---- boards

    public int board(int wide, int high) throws IllegalArgumentException, IllegalStateException {
        if (wide < SHORTEST || wide > LONGEST || high < SHORTEST || high > LONGEST) {
            throw new IllegalArgumentException("WIDE and HIGH are 2 to 5");
        }
        if (boardCount >= MOST_BOARDS) {
            throw new IllegalStateException("there are 3 BOARDS");
        }
        boards[boardCount] = new Board(wide, high);
        boardCount++;
        return boardCount - 1;
    }

    public int clue(int board, int line, int runs) throws IndexOutOfBoundsException, IllegalArgumentException {
        Grid grid = boardAt(board).grid;
        checkLine(grid, line);
        if (!isClue(runs, grid.lengthOf(line))) {
            throw new IllegalArgumentException("no such CLUE for this LINE");
        }
        grid.tell(line, runs);
        return Integer.bitCount(grid.waysOf(line));
    }

    public int open(int board, int line) throws IndexOutOfBoundsException {
        Grid grid = boardAt(board).grid;
        checkLine(grid, line);
        int before = grid.clueOf(line);
        grid.tell(line, NONE);
        return before;
    }

    public boolean mark(int board, int cell, boolean isDark) throws IndexOutOfBoundsException, IllegalStateException {
        Board on = boardAt(board);
        checkCell(on.grid, cell);
        checkUnknown(on.grid, cell);
        tryOut(on.grid, cell, isDark);
        // One PICTURE is enough to see that there is any.
        if (trialAlbum.lookAt(trial, 1).count == 0) {
            on.mistakes++;
            return false;
        }
        on.grid.put(cell, stateOf(isDark), BY_HAND, 0, on.guesses);
        return true;
    }

    public int sweep(int board) throws IndexOutOfBoundsException {
        Board on = boardAt(board);
        on.sweeps++;
        return on.grid.followAll(on.guesses);
    }

    public int guess(int board, int cell, boolean isDark) throws IndexOutOfBoundsException, IllegalStateException {
        Board on = boardAt(board);
        checkCell(on.grid, cell);
        checkUnknown(on.grid, cell);
        if (on.guesses >= MOST_GUESSES) {
            throw new IllegalStateException("6 GUESSES stand");
        }
        on.keep(cell);
        on.grid.put(cell, stateOf(isDark), BY_HAND, 0, on.guesses);
        return on.guesses;
    }

    public int back(int board, boolean isWrong) throws IndexOutOfBoundsException, IllegalStateException {
        Board on = boardAt(board);
        if (on.guesses <= 0) {
            throw new IllegalStateException("no GUESS stands");
        }
        int cell = on.lastGuessed();
        // While its GUESS stands nothing can change the CELL, so it still shows what was guessed.
        int other = DARK + LIGHT - on.grid.stateAt(cell);
        on.restore();
        if (isWrong) {
            on.grid.put(cell, other, BY_WRONG_GUESS, 0, on.guesses);
        }
        return cell;
    }

    public int turn(int board, int how)
            throws IndexOutOfBoundsException, IllegalArgumentException, IllegalStateException {
        Board on = boardAt(board);
        if (how < HALF || how > TILT) {
            throw new IllegalArgumentException("how is 0 to 2");
        }
        checkNoGuess(on);
        trial.takeAll(on.grid);
        on.grid.takeTurned(trial, how);
        return on.grid.wide;
    }

    public int paint(int board, int row, int set)
            throws IndexOutOfBoundsException, IllegalArgumentException, IllegalStateException {
        Board on = boardAt(board);
        if (row < 0 || row >= on.grid.high) {
            throw new IndexOutOfBoundsException("no such row");
        }
        if (set < 0 || set >= 1 << on.grid.wide) {
            throw new IllegalArgumentException("no such set of places");
        }
        checkNoGuess(on);
        on.grid.paintRow(row, set);
        return on.grid.countOf(DARK);
    }

    public int read(int board) throws IndexOutOfBoundsException, IllegalStateException {
        Board on = boardAt(board);
        checkNoGuess(on);
        if (on.grid.countOf(UNKNOWN) > 0) {
            throw new IllegalStateException("a CELL is UNKNOWN");
        }
        int runs = on.grid.tellAsShown();
        on.grid.clearCells();
        return runs;
    }

    public int wipe(int board) throws IndexOutOfBoundsException {
        Board on = boardAt(board);
        int known = on.grid.cellCount() - on.grid.countOf(UNKNOWN);
        on.grid.clearCells();
        on.guesses = 0;
        return known;
    }

    public int knock() {
        refused++;
        return refused;
    }

    // ---- what is asked

    public int ofCell(int board, int cell, int what) throws IndexOutOfBoundsException, IllegalArgumentException {
        Grid grid = boardAt(board).grid;
        checkCell(grid, cell);
        checkWhat(what, DEPTH);
        return grid.aspectOf(cell, what);
    }

    public int ofLine(int board, int line, int what) throws IndexOutOfBoundsException, IllegalArgumentException {
        Grid grid = boardAt(board).grid;
        checkLine(grid, line);
        checkWhat(what, 5);
        switch (what) {
            case 0:
                return grid.clueOf(line);
            case 1:
                return runsIn(grid.clueOf(line));
            case 2:
                return Integer.bitCount(grid.waysOf(line));
            case 3:
                return grid.following(line, DARK);
            case 4:
                return grid.following(line, LIGHT);
            default:
                return grid.lengthOf(line);
        }
    }

    public int way(int board, int line, int nth) throws IndexOutOfBoundsException, IllegalArgumentException {
        Grid grid = boardAt(board).grid;
        checkLine(grid, line);
        if (nth < 0) {
            throw new IllegalArgumentException("nth is 0 or more");
        }
        int ways = grid.waysOf(line);
        int smaller = 0;
        for (int number = 0; number < SHOWN.length; number++) {
            if (isIn(ways, number)) {
                if (smaller == nth) {
                    return number;
                }
                smaller++;
            }
        }
        return NONE;
    }

    public int ofBoard(int board, int what) throws IndexOutOfBoundsException, IllegalArgumentException {
        Board on = boardAt(board);
        checkWhat(what, 10);
        switch (what) {
            case 0:
                return on.grid.wide;
            case 1:
                return on.grid.high;
            case 2:
                return on.grid.countOf(UNKNOWN);
            case 3:
                return on.grid.countOf(DARK);
            case 4:
                return on.grid.brokenLines();
            case 5:
                return on.guesses;
            case 6:
                return on.mistakes;
            case 7:
                return on.album.lookAt(on.grid, MOST_PICTURES).count;
            case 8:
                return on.grid.openLines();
            case 9:
                return on.sweeps;
            default:
                return on.album.lookAt(on.grid, MOST_PICTURES).alwaysSame() & on.grid.unknownSet();
        }
    }

    public String text(int board) throws IndexOutOfBoundsException {
        Grid grid = boardAt(board).grid;
        StringBuilder signs = new StringBuilder();
        for (int row = 0; row < grid.high; row++) {
            if (row > 0) {
                signs.append('/');
            }
            for (int column = 0; column < grid.wide; column++) {
                signs.append(signOf(grid.stateAt(grid.cellAt(row, column))));
            }
        }
        return signs.toString();
    }

    public int picture(int board, int nth) throws IndexOutOfBoundsException, IllegalArgumentException {
        Board on = boardAt(board);
        if (nth < 0 || nth >= MOST_PICTURES) {
            throw new IllegalArgumentException("nth is 0 to 499");
        }
        return on.album.lookAt(on.grid, MOST_PICTURES).pictureAt(nth);
    }

    public double chance(int board, int cell) throws IndexOutOfBoundsException {
        Board on = boardAt(board);
        checkCell(on.grid, cell);
        return on.album.lookAt(on.grid, MOST_PICTURES).chanceOf(cell);
    }

    public double blur(int board, int what) throws IndexOutOfBoundsException, IllegalArgumentException {
        Board on = boardAt(board);
        checkWhat(what, 1);
        return what == 0 ? on.grid.looseness() : (double) on.album.lookAt(on.grid, MOST_PICTURES).fogOver(on.grid);
    }

    public int many(int what) throws IllegalArgumentException {
        checkWhat(what, 4);
        if (what <= 1) {
            return what == 0 ? boardCount : refused;
        }
        int sum = 0;
        for (int board = 0; board < boardCount; board++) {
            Board on = boardAt(board);
            sum += what == 2 ? on.mistakes : what == 3 ? on.grid.countOf(UNKNOWN) : on.guesses;
        }
        return sum;
    }

    // ---- what would be (nothing is changed)

    public int hint(int board) throws IndexOutOfBoundsException {
        Grid grid = boardAt(board).grid;
        int best = NONE;
        int most = 0;
        for (int line = 0; line < grid.lineCount(); line++) {
            int follow = Integer.bitCount(grid.following(line, DARK)) + Integer.bitCount(grid.following(line, LIGHT));
            if (follow > most) {
                best = line;
                most = follow;
            }
        }
        return best;
    }

    public int toss(int board) throws IndexOutOfBoundsException {
        Board on = boardAt(board);
        Album album = on.album.lookAt(on.grid, MOST_PICTURES);
        int best = NONE;
        double nearest = 1.0;
        if (album.count == 0) {
            return NONE;
        }
        for (int cell = 0; cell < on.grid.cellCount(); cell++) {
            if (on.grid.stateAt(cell) == UNKNOWN) {
                double off = album.chanceOf(cell) - 0.5;
                double far = off < 0.0 ? -off : off;
                if (far < nearest) {
                    best = cell;
                    nearest = far;
                }
            }
        }
        return best;
    }

    public int would(int board, int cell, boolean isDark, int what)
            throws IndexOutOfBoundsException, IllegalArgumentException, IllegalStateException {
        Grid grid = boardAt(board).grid;
        checkCell(grid, cell);
        checkWhat(what, 2);
        checkUnknown(grid, cell);
        tryOut(grid, cell, isDark);
        if (what == 2) {
            return trialAlbum.lookAt(trial, MOST_PICTURES).count;
        }
        int followed = trial.followAll(0);
        if (what == 0) {
            return followed;
        }
        return trial.brokenLines() > 0 ? 1 : 0;
    }

    public int needs(int board) throws IndexOutOfBoundsException {
        Board on = boardAt(board);
        return on.album.lookAt(on.grid, MOST_PICTURES).fewestToTellFirst();
    }

    public int alike(int one, int other) throws IndexOutOfBoundsException {
        Grid from = boardAt(one).grid;
        Grid to = boardAt(other).grid;
        for (int turning = 0; turning < 8; turning++) {
            if (from.isTurnedInto(to, turning)) {
                return turning;
            }
        }
        return NONE;
    }

    public long digest() {
        long d = 58319;
        for (int what = 0; what <= 4; what++) {
            d = d * 31 + many(what);
        }
        for (int board = 0; board < boardCount; board++) {
            d = withBoard(d, board);
        }
        return d;
    }

    // ---- helpers of the face

    private long withBoard(long before, int board) {
        long d = before;
        Grid grid = boardAt(board).grid;
        for (int what = 0; what <= 10; what++) {
            d = d * 31 + ofBoard(board, what);
        }
        for (int cell = 0; cell < grid.cellCount(); cell++) {
            for (int what = 0; what <= 3; what++) {
                d = d * 31 + ofCell(board, cell, what);
            }
        }
        for (int line = 0; line < grid.lineCount(); line++) {
            for (int what = 0; what <= 5; what++) {
                d = d * 31 + ofLine(board, line, what);
            }
            d = d * 31 + way(board, line, 0);
        }
        d = d * 31 + picture(board, 0);
        d = d * 31 + (long) (64 * blur(board, 0));
        d = d * 31 + (long) (64 * blur(board, 1));
        d = d * 31 + hint(board);
        d = d * 31 + toss(board);
        d = d * 31 + needs(board);
        return d * 31 + alike(board, 0);
    }

    private Board boardAt(int number) {
        Board found = number >= 0 && number < boards.length ? boards[number] : null;
        if (found == null) {
            throw new IndexOutOfBoundsException("no such BOARD");
        }
        return found;
    }

    private void tryOut(Grid grid, int cell, boolean isDark) {
        trial.takeAll(grid);
        trial.put(cell, stateOf(isDark), BY_HAND, 0, 0);
    }

    private static void checkCell(Grid grid, int cell) {
        if (cell < 0 || cell >= grid.cellCount()) {
            throw new IndexOutOfBoundsException("no such CELL");
        }
    }

    private static void checkLine(Grid grid, int line) {
        if (line < 0 || line >= grid.lineCount()) {
            throw new IndexOutOfBoundsException("no such LINE");
        }
    }

    private static void checkWhat(int what, int last) {
        if (what < 0 || what > last) {
            throw new IllegalArgumentException("no such what");
        }
    }

    private static void checkUnknown(Grid grid, int cell) {
        if (grid.stateAt(cell) != UNKNOWN) {
            throw new IllegalStateException("the CELL is not UNKNOWN");
        }
    }

    private static void checkNoGuess(Board on) {
        if (on.guesses > 0) {
            throw new IllegalStateException("a GUESS stands");
        }
    }

    private static int stateOf(boolean isDark) {
        return isDark ? DARK : LIGHT;
    }

    private static char signOf(int state) {
        return state == DARK ? '#' : state == LIGHT ? '.' : '?';
    }

    private static boolean isIn(int set, int number) {
        return (set >>> number & 1) == 1;
    }

    private static boolean isClue(int runs, int length) {
        if (runs <= 0) {
            return runs == 0;
        }
        int needed = -1;
        for (int rest = runs; rest > 0; rest /= 10) {
            if (rest % 10 == 0) {
                return false;
            }
            needed += rest % 10 + 1;
        }
        return needed <= length;
    }

    private static int runsIn(int clue) {
        if (clue <= 0) {
            return clue;
        }
        int runs = 0;
        for (int rest = clue; rest > 0; rest /= 10) {
            runs++;
        }
        return runs;
    }

    private static int reversed(int clue) {
        if (clue <= 0) {
            return clue;
        }
        int turned = 0;
        for (int rest = clue; rest > 0; rest /= 10) {
            turned = turned * 10 + rest % 10;
        }
        return turned;
    }

    private static int shownBy(int number) {
        return number >= 0 && number < SHOWN.length ? SHOWN[number] : 0;
    }

    /** The set of all numbers of this length that show the CLUE (of all, if it is NONE). */
    private static int fitting(int clue, int length) {
        if (clue == NONE) {
            return -1 >>> (32 - (1 << length));
        }
        int numbers = 0;
        for (int number = 0; number < SHOWN.length && number < 1 << length; number++) {
            if (SHOWN[number] == clue) {
                numbers |= 1 << number;
            }
        }
        return numbers;
    }

    /** The CELLS and CLUES of a BOARD, and what follows from them. */
    private static final class Grid {
        private final int[] cells = new int[MOST_CELLS * ASPECTS];
        private final int[] clues = new int[MOST_LINES];
        /** For each LINE the numbers that show its CLUE: the WAYS that it would have without known CELLS. */
        private final int[] fits = new int[MOST_LINES];
        private int wide;
        private int high;

        Grid(int wide, int high) {
            this.wide = wide;
            this.high = high;
            clearCells();
            for (int line = 0; line < lineCount(); line++) {
                tell(line, NONE);
            }
        }

        int cellCount() {
            return wide * high;
        }

        int lineCount() {
            return wide + high;
        }

        int lengthOf(int line) {
            return line < high ? wide : high;
        }

        int cellAt(int line, int place) {
            return line < high ? line * wide + place : place * wide + line - high;
        }

        int clueOf(int line) {
            return line >= 0 && line < clues.length ? clues[line] : NONE;
        }

        int stateAt(int cell) {
            return cell >= 0 && cell < MOST_CELLS ? cells[cell * ASPECTS + STATE] : UNKNOWN;
        }

        int aspectOf(int cell, int what) {
            if (cell < 0 || cell >= MOST_CELLS || what < STATE || what > DEPTH) {
                return UNKNOWN;
            }
            return cells[cell * ASPECTS + what];
        }

        void put(int cell, int state, int reason, int round, int depth) {
            if (cell < 0 || cell >= MOST_CELLS) {
                return;
            }
            int at = cell * ASPECTS;
            cells[at + STATE] = state;
            cells[at + REASON] = reason;
            cells[at + ROUND] = round;
            cells[at + DEPTH] = depth;
        }

        void clearCells() {
            for (int cell = 0; cell < MOST_CELLS; cell++) {
                put(cell, UNKNOWN, BY_HAND, 0, 0);
            }
        }

        void tell(int line, int clue) {
            if (line >= 0 && line < MOST_LINES) {
                clues[line] = clue;
                fits[line] = fitting(clue, lengthOf(line));
            }
        }

        void paintRow(int row, int set) {
            for (int column = 0; column < wide; column++) {
                put(cellAt(row, column), isIn(set, column) ? DARK : LIGHT, BY_HAND, 0, 0);
            }
        }

        /** Makes what each LINE shows its CLUE, and tells how many RUNS these have together. */
        int tellAsShown() {
            int runs = 0;
            for (int line = 0; line < lineCount(); line++) {
                int shown = shownBy(darkPlaces(line));
                tell(line, shown);
                runs += runsIn(shown);
            }
            return runs;
        }

        private int darkPlaces(int line) {
            int places = 0;
            for (int place = 0; place < lengthOf(line); place++) {
                if (stateAt(cellAt(line, place)) == DARK) {
                    places |= 1 << place;
                }
            }
            return places;
        }

        int waysOf(int line) {
            int ways = line >= 0 && line < fits.length ? fits[line] : 0;
            int length = lengthOf(line);
            for (int place = 0; place < length && place < DARK_AT.length; place++) {
                int state = stateAt(cellAt(line, place));
                if (state == DARK) {
                    ways &= DARK_AT[place];
                } else if (state == LIGHT) {
                    ways &= ~DARK_AT[place];
                }
            }
            return ways;
        }

        /** The places of the CELLS that FOLLOW from a LINE as DARK or as LIGHT ones. */
        int following(int line, int state) {
            return followingIn(waysOf(line), line, state);
        }

        private int followingIn(int ways, int line, int state) {
            int places = 0;
            if (ways == 0) {
                return places;
            }
            for (int place = 0; place < lengthOf(line) && place < DARK_AT.length; place++) {
                int against = state == DARK ? ways & ~DARK_AT[place] : ways & DARK_AT[place];
                if (against == 0 && stateAt(cellAt(line, place)) == UNKNOWN) {
                    places |= 1 << place;
                }
            }
            return places;
        }

        /** Does a SWEEP, and tells how many CELLS became known. */
        int followAll(int depth) {
            int known = 0;
            for (int round = 1; round <= MOST_CELLS + 1; round++) {
                int before = known;
                for (int line = 0; line < lineCount(); line++) {
                    int ways = waysOf(line);
                    if (ways == 0) {
                        return known;
                    }
                    int darks = followingIn(ways, line, DARK);
                    int lights = followingIn(ways, line, LIGHT);
                    putFollowing(line, darks, lights, round, depth);
                    known += Integer.bitCount(darks) + Integer.bitCount(lights);
                }
                if (known == before) {
                    return known;
                }
            }
            return known;
        }

        private void putFollowing(int line, int darks, int lights, int round, int depth) {
            for (int place = 0; place < lengthOf(line); place++) {
                if (isIn(darks, place)) {
                    put(cellAt(line, place), DARK, line, round, depth);
                } else if (isIn(lights, place)) {
                    put(cellAt(line, place), LIGHT, line, round, depth);
                }
            }
        }

        int countOf(int state) {
            int count = 0;
            for (int cell = 0; cell < cellCount(); cell++) {
                if (stateAt(cell) == state) {
                    count++;
                }
            }
            return count;
        }

        int unknownSet() {
            int set = 0;
            for (int cell = 0; cell < cellCount(); cell++) {
                if (stateAt(cell) == UNKNOWN) {
                    set |= 1 << cell;
                }
            }
            return set;
        }

        int brokenLines() {
            int broken = 0;
            for (int line = 0; line < lineCount(); line++) {
                if (waysOf(line) == 0) {
                    broken++;
                }
            }
            return broken;
        }

        int openLines() {
            int open = 0;
            for (int line = 0; line < lineCount(); line++) {
                if (clueOf(line) == NONE) {
                    open++;
                }
            }
            return open;
        }

        double looseness() {
            double sum = 0.0;
            for (int line = 0; line < lineCount(); line++) {
                sum += (double) Integer.bitCount(waysOf(line)) / (double) (1 << unknownIn(line));
            }
            return lineCount() > 0 ? sum / (double) lineCount() : 0.0;
        }

        private int unknownIn(int line) {
            int unknown = 0;
            for (int place = 0; place < lengthOf(line); place++) {
                if (stateAt(cellAt(line, place)) == UNKNOWN) {
                    unknown++;
                }
            }
            return unknown;
        }

        void takeAll(Grid other) {
            wide = other.wide;
            high = other.high;
            System.arraycopy(other.cells, 0, cells, 0, cells.length);
            System.arraycopy(other.clues, 0, clues, 0, clues.length);
            System.arraycopy(other.fits, 0, fits, 0, fits.length);
        }

        /** Becomes what another grid is once that is TURNED. */
        void takeTurned(Grid other, int how) {
            wide = how == TILT ? other.high : other.wide;
            high = how == TILT ? other.wide : other.high;
            for (int row = 0; row < other.high; row++) {
                for (int column = 0; column < other.wide; column++) {
                    takeTurnedCell(other, row, column, how);
                }
            }
            for (int line = 0; line < other.lineCount(); line++) {
                int clue = other.clueOf(line);
                tell(other.turnedLine(line, how), other.runsOtherWay(line, how) ? reversed(clue) : clue);
            }
        }

        private void takeTurnedCell(Grid other, int row, int column, int how) {
            int toRow = how == TILT ? column : how == HALF ? high - 1 - row : row;
            int toColumn = how == TILT ? row : wide - 1 - column;
            int from = other.cellAt(row, column);
            int reason = other.aspectOf(from, REASON);
            int newReason = reason < 0 ? reason : other.turnedLine(reason, how);
            put(cellAt(toRow, toColumn), other.stateAt(from), newReason, other.aspectOf(from, ROUND),
                    other.aspectOf(from, DEPTH));
        }

        private int turnedLine(int line, int how) {
            if (how == TILT) {
                return line < high ? wide + line : line - high;
            }
            if (line >= high) {
                return high + wide - 1 - (line - high);
            }
            return how == HALF ? high - 1 - line : line;
        }

        private boolean runsOtherWay(int line, int how) {
            return how == HALF || how == MIRROR && line < high;
        }

        /** Whether the CLUES, turned by MIRROR (1 in it), HALF (2) and TILT (4), are those of the other one. */
        boolean isTurnedInto(Grid other, int turning) {
            boolean isTilted = (turning & 4) != 0;
            if (other.wide != (isTilted ? high : wide) || other.high != (isTilted ? wide : high)) {
                return false;
            }
            for (int line = 0; line < lineCount(); line++) {
                int to = line;
                boolean isReversed = false;
                if ((turning & 1) != 0) {
                    isReversed = runsOtherWay(to, MIRROR);
                    to = turnedLine(to, MIRROR);
                }
                if ((turning & 2) != 0) {
                    isReversed = !isReversed;
                    to = turnedLine(to, HALF);
                }
                if (isTilted) {
                    to = turnedLine(to, TILT);
                }
                if (other.clueOf(to) != (isReversed ? reversed(clueOf(line)) : clueOf(line))) {
                    return false;
                }
            }
            return true;
        }
    }

    /** A BOARD: its grid, what its GUESSES kept, and its counts. */
    private static final class Board {
        private final Grid grid;
        private final Album album = new Album();
        private final int[] kept = new int[MOST_GUESSES * MOST_CELLS * ASPECTS];
        private final int[] guessed = new int[MOST_GUESSES];
        private int guesses;
        private int mistakes;
        private int sweeps;

        Board(int wide, int high) {
            grid = new Grid(wide, high);
        }

        void keep(int cell) {
            if (guesses >= 0 && guesses < MOST_GUESSES) {
                System.arraycopy(grid.cells, 0, kept, guesses * grid.cells.length, grid.cells.length);
                guessed[guesses] = cell;
                guesses++;
            }
        }

        int lastGuessed() {
            return guesses > 0 && guesses <= guessed.length ? guessed[guesses - 1] : NONE;
        }

        void restore() {
            if (guesses > 0 && guesses <= MOST_GUESSES) {
                guesses--;
                System.arraycopy(kept, guesses * grid.cells.length, grid.cells, 0, grid.cells.length);
            }
        }
    }

    /**
     * The PICTURES of a grid that are looked at. They hang on nothing but the WAYS of its LINES, so they are
     * looked for again only when these have changed.
     */
    private static final class Album {
        private final int[] pictures = new int[MOST_PICTURES];
        private final int[] lineWays = new int[MOST_LINES];
        private final Grid swept = new Grid(SHORTEST, SHORTEST);
        private final int[] rowWays = new int[LONGEST];
        /** The WAYS of each column that agree with the rows laid so far, a part for each number of these. */
        private final int[] columnWays = new int[(LONGEST + 1) * LONGEST];
        private final int[] darkCounts = new int[MOST_CELLS];
        private boolean isCounted;
        private int wide;
        private int high;
        private int most;
        private int count;

        Album lookAt(Grid grid, int most) {
            if (!isChangedBy(grid, most)) {
                return this;
            }
            count = 0;
            isCounted = false;
            // A SWEEP loses no PICTURE, as all of them show what follows, and it spares most hopeless searches.
            swept.takeAll(grid);
            swept.followAll(0);
            for (int row = 0; row < high && row < rowWays.length; row++) {
                rowWays[row] = swept.waysOf(row);
            }
            for (int column = 0; column < wide && column < columnWays.length; column++) {
                columnWays[column] = swept.waysOf(high + column);
            }
            if (canGoOn(0)) {
                layRow(this, 0, 0);
            }
            return this;
        }

        private boolean isChangedBy(Grid grid, int most) {
            boolean isChanged = wide != grid.wide || high != grid.high || this.most != most;
            wide = grid.wide;
            high = grid.high;
            this.most = most;
            for (int line = 0; line < grid.lineCount() && line < lineWays.length; line++) {
                int ways = grid.waysOf(line);
                if (lineWays[line] != ways) {
                    isChanged = true;
                    lineWays[line] = ways;
                }
            }
            return isChanged;
        }

        /** Lays a row in each way that can go on, and so the ones below it; never deeper than there are rows. */
        private static void layRow(Album album, int row, int darks) {
            if (row >= album.high || row >= LONGEST) {
                album.add(darks);
                return;
            }
            int ways = album.agreeingWays(row, row);
            for (int number = 0; number < 1 << album.wide; number++) {
                if (album.count >= album.most) {
                    return;
                }
                if (isIn(ways, number)) {
                    album.narrowColumns(row, number);
                    if (album.canGoOn(row + 1)) {
                        layRow(album, row + 1, darks | number << row * album.wide);
                    }
                }
            }
        }

        private void add(int picture) {
            if (count >= 0 && count < pictures.length) {
                pictures[count] = picture;
                count++;
            }
        }

        private void narrowColumns(int row, int number) {
            if (row < 0 || row >= LONGEST) {
                return;
            }
            for (int column = 0; column < wide && column < LONGEST; column++) {
                int agreeing = isIn(number, column) ? DARK_AT[row] : ~DARK_AT[row];
                columnWays[(row + 1) * LONGEST + column] = columnWays[row * LONGEST + column] & agreeing;
            }
        }

        /** Whether each row that is not laid still has a WAY: this ends hopeless searches early. */
        private boolean canGoOn(int laid) {
            for (int row = laid; row < high; row++) {
                if (agreeingWays(laid, row) == 0) {
                    return false;
                }
            }
            return true;
        }

        /** The WAYS of a row that no column forbids by itself, once so many rows are laid. */
        private int agreeingWays(int laid, int row) {
            if (laid < 0 || laid > LONGEST || row < 0 || row >= LONGEST) {
                return 0;
            }
            int ways = rowWays[row];
            for (int column = 0; column < wide && column < LONGEST; column++) {
                int down = columnWays[laid * LONGEST + column];
                if ((down & DARK_AT[row]) == 0) {
                    ways &= ~DARK_AT[column];
                }
                if ((down & ~DARK_AT[row]) == 0) {
                    ways &= DARK_AT[column];
                }
            }
            return ways;
        }

        int pictureAt(int nth) {
            return nth >= 0 && nth < count && nth < pictures.length ? pictures[nth] : NONE;
        }

        /** The set of the CELLS that are the same in all PICTURES; empty without any. */
        int alwaysSame() {
            if (count == 0) {
                return 0;
            }
            int inAll = -1;
            int inAny = 0;
            for (int nth = 0; nth < count && nth < pictures.length; nth++) {
                inAll &= pictures[nth];
                inAny |= pictures[nth];
            }
            return inAll | ~inAny;
        }

        private int darkIn(int cell) {
            if (!isCounted) {
                countDarks();
            }
            return cell >= 0 && cell < darkCounts.length ? darkCounts[cell] : 0;
        }

        private void countDarks() {
            for (int cell = 0; cell < wide * high && cell < darkCounts.length; cell++) {
                int darks = 0;
                for (int nth = 0; nth < count && nth < pictures.length; nth++) {
                    darks += pictures[nth] >>> cell & 1;
                }
                darkCounts[cell] = darks;
            }
            isCounted = true;
        }

        double chanceOf(int cell) {
            return count == 0 ? 0.0 : (double) darkIn(cell) / (double) count;
        }

        float fogOver(Grid grid) {
            float fog = 0f;
            if (count == 0) {
                return fog;
            }
            for (int cell = 0; cell < grid.cellCount(); cell++) {
                if (grid.stateAt(cell) == UNKNOWN) {
                    float share = (float) darkIn(cell) / (float) count;
                    float rest = 1f - share;
                    fog += share <= rest ? share : rest;
                }
            }
            return fog;
        }

        int fewestToTellFirst() {
            if (count <= 1) {
                return count == 0 ? NONE : 0;
            }
            if (tellsFirst(0)) {
                return 1;
            }
            for (int cell = 0; cell < wide * high; cell++) {
                if (tellsFirst(1 << cell)) {
                    return 2;
                }
            }
            return NONE;
        }

        /** Whether one more CELL tells the first PICTURE from all that are like it in the CELLS known. */
        private boolean tellsFirst(int known) {
            int telling = -1;
            for (int nth = 1; nth < count && nth < pictures.length && telling != 0; nth++) {
                int differing = pictures[nth] ^ pictures[0];
                if ((differing & known) == 0) {
                    telling &= differing;
                }
            }
            return telling != 0;
        }
    }
}
