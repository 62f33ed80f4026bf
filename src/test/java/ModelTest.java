import java.util.ArrayList;
import java.util.Arrays;
import java.util.Collections;
import java.util.List;
import java.util.Random;
import java.util.Set;
import java.util.TreeMap;
import java.util.TreeSet;

/**
 * Compares the hall with a slow model, written from the document alone with lists and texts, over many runs of
 * drawn calls (the seeds are fixed). Each run has at most 512 calls.
 */
public final class ModelTest {
    private static final int RUNS = 800;
    private static int wrong = 0;
    private static final TreeMap<String, Integer> ANSWERS = new TreeMap<>();

    public static void main(String[] args) {
        for (int run = 0; run < RUNS && wrong < 20; run++) {
            compareRun(run);
        }
        // A comparison says little about answers that never came up.
        for (String must : MUST_COME_UP) {
            if (ANSWERS.getOrDefault(must, 0) < 20) {
                wrong++;
                System.out.println("the runs hardly reach: " + must);
            }
        }
        System.out.println(wrong == 0 ? "the hall and the model agree" : wrong + " differences");
        if (wrong > 0) {
            System.exit(1);
        }
    }

    private static final String[] MUST_COME_UP = {
        "board IAE", "board ISE", "clue IOOBE", "clue IAE", "clue 0", "open -1", "open IOOBE", "mark IOOBE",
        "mark ISE", "mark true", "mark false", "sweep IOOBE", "sweep 0", "guess IOOBE", "guess ISE", "guess 6",
        "back IOOBE", "back ISE", "turn IOOBE", "turn IAE", "turn ISE", "turn 2", "paint IOOBE", "paint IAE",
        "paint ISE", "read IOOBE", "read ISE", "read 4", "wipe IOOBE", "wipe 0", "knock 1", "ofCell IOOBE",
        "ofCell IAE", "ofLine IOOBE", "ofLine IAE", "way IOOBE", "way IAE", "way -1", "ofBoard IOOBE", "ofBoard IAE",
        "ofBoard 500", "text IOOBE", "picture IOOBE", "picture IAE", "picture -1", "chance IOOBE", "chance 0.5",
        "blur IOOBE", "blur IAE", "blur 1.0", "many IAE", "hint IOOBE", "hint -1", "toss IOOBE", "toss -1",
        "would IOOBE", "would IAE", "would ISE", "would 1", "needs IOOBE", "needs -1", "needs 0", "needs 1", "needs 2",
        "alike IOOBE", "alike -1", "alike 0", "alike 1", "alike 2", "alike 3", "alike 4", "alike 5", "alike 6", "alike 7"};

    private static void compareRun(int seed) {
        Random draw = new Random(7_000 + seed);
        TesseraHall hall = new TesseraHall();
        Model model = new Model();
        int length = 100 + draw.nextInt(150);
        List<String> told = new ArrayList<>();
        Plan plan = new Plan(draw);
        for (int n = 0; n < length; n++) {
            Object[] call = plan.next(model);
            String got = answer(hall, null, call);
            String due = answer(null, model, call);
            told.add(Arrays.toString(call) + " -> " + got);
            ANSWERS.merge(call[0] + " " + due, 1, Integer::sum);
            String digestGot = n % 16 == 0 || n == length - 1 ? "" + hall.digest() : "";
            String digestDue = n % 16 == 0 || n == length - 1 ? "" + model.digest() : "";
            if (!got.equals(due) || !digestGot.equals(digestDue)) {
                wrong++;
                System.out.println("run " + seed + ", due is " + due + ", digest " + digestGot + " due " + digestDue);
                for (String row : told) {
                    System.out.println("  " + row);
                }
                return;
            }
        }
    }

    /** Draws calls that make boards worth asking: painted and read off, partly marked, now and then wrong ones. */
    private static final class Plan {
        private static final int[] CLUES = {0, 1, 2, 3, 4, 5, 11, 12, 13, 21, 22, 31, 111};
        private final Random draw;
        private final List<Object[]> waiting = new ArrayList<>();

        Plan(Random draw) {
            this.draw = draw;
        }

        Object[] next(Model model) {
            if (model.boards.isEmpty() || model.boards.size() < 3 && draw.nextInt(12) == 0) {
                return newBoard(model);
            }
            if (waiting.isEmpty() && draw.nextInt(25) == 0) {
                addPaintedBoard(model);
            }
            if (!waiting.isEmpty()) {
                return waiting.remove(0);
            }
            int board = draw.nextInt(30) == 0 ? odd() : draw.nextInt(model.boards.size());
            int wide = board >= 0 && board < model.boards.size() ? model.boards.get(board).wide : 3;
            int high = board >= 0 && board < model.boards.size() ? model.boards.get(board).high : 3;
            int cell = among(wide * high);
            int line = among(wide + high);
            switch (draw.nextInt(36)) {
                case 0:
                    return call("board", draw.nextBoolean() ? size() : among(7), size());
                case 1: case 2: case 3: case 4:
                    return call("clue", board, line, clue());
                case 5:
                    return call("open", board, line);
                case 6: case 7: case 8: case 9:
                    return call("mark", board, cell, draw.nextBoolean());
                case 10: case 11:
                    return call("sweep", board);
                case 12: case 13: case 14: case 15: case 16:
                    return call("guess", board, cell, draw.nextBoolean());
                case 17: case 18:
                    return call("back", board, draw.nextBoolean());
                case 19:
                    return call("turn", board, among(3));
                case 20:
                    return call("paint", board, among(high), among(1 << wide));
                case 21:
                    return call("read", board);
                case 22:
                    return call("wipe", board);
                case 23:
                    return call("knock");
                case 24:
                    return call("ofCell", board, cell, among(4));
                case 25:
                    return call("ofLine", board, line, among(6));
                case 26:
                    return call("way", board, line, among(8));
                case 27:
                    return call("ofBoard", board, among(11));
                case 28:
                    return call("text", board);
                case 29:
                    return call("picture", board, draw.nextBoolean() ? among(5) : among(500));
                case 30:
                    return call("chance", board, cell);
                case 31:
                    return call("blur", board, among(2));
                case 32:
                    return draw.nextBoolean() ? call("many", among(5)) : call("hint", board);
                case 33:
                    return draw.nextBoolean() ? call("toss", board) : call("needs", board);
                case 34:
                    return call("alike", board, draw.nextInt(12) == 0 ? odd() : draw.nextInt(model.boards.size()));
                default:
                    return call("would", board, cell, draw.nextBoolean(), among(3));
            }
        }

        /** Often of the first one's size, so that some are alike. */
        private Object[] newBoard(Model model) {
            if (model.boards.isEmpty() || draw.nextInt(3) == 0) {
                return call("board", size(), size());
            }
            return call("board", model.boards.get(0).wide, model.boards.get(0).high);
        }

        /** Wipes a board, paints it, reads it off; then at times another board, made alike and turned. */
        private void addPaintedBoard(Model model) {
            int board = draw.nextInt(model.boards.size());
            int other = draw.nextInt(model.boards.size());
            int[] sets = new int[5];
            for (int row = 0; row < 5; row++) {
                sets[row] = draw.nextInt(32);
            }
            paintAll(model, board, sets);
            if (other != board && model.boards.get(board).wide == model.boards.get(other).wide
                    && model.boards.get(board).high == model.boards.get(other).high) {
                paintAll(model, other, sets);
                if (draw.nextBoolean()) {
                    int line = draw.nextInt(4);
                    waiting.add(call("open", board, line));
                    waiting.add(call("open", other, line));
                }
                for (int how = 0; how < 3; how++) {
                    if (draw.nextBoolean()) {
                        waiting.add(call("turn", other, how));
                    }
                }
                waiting.add(call("alike", board, other));
                waiting.add(call("alike", other, board));
            }
        }

        private void paintAll(Model model, int board, int[] sets) {
            waiting.add(call("wipe", board));
            for (int row = 0; row < model.boards.get(board).high; row++) {
                waiting.add(call("paint", board, row, sets[row] & (1 << model.boards.get(board).wide) - 1));
            }
            waiting.add(call("read", board));
        }

        private int size() {
            return 2 + draw.nextInt(4);
        }

        private int clue() {
            return draw.nextInt(12) == 0 ? odd() : CLUES[draw.nextInt(CLUES.length)];
        }

        private int among(int bound) {
            if (draw.nextInt(40) == 0) {
                return draw.nextBoolean() ? bound : -1;
            }
            return draw.nextInt(80) == 0 ? odd() : draw.nextInt(bound);
        }

        private int odd() {
            int[] odds = {-1, 3, 6, 10, 20, 101, 110, 1111, 41, 32, 23, 221, 25, 500, 1 << 30, Integer.MAX_VALUE,
                Integer.MIN_VALUE, 1_111_111_111};
            return odds[draw.nextInt(odds.length)];
        }

        private static Object[] call(Object... parts) {
            return parts;
        }
    }

    private static String answer(TesseraHall hall, Model model, Object[] c) {
        try {
            return "" + (hall != null ? ofHall(hall, c) : ofModel(model, c));
        } catch (IndexOutOfBoundsException e) {
            // The machine's own exceptions of this kind are of classes below the one that is due.
            return e.getClass() == IndexOutOfBoundsException.class ? "IOOBE" : e.toString();
        } catch (IllegalArgumentException e) {
            return "IAE";
        } catch (IllegalStateException e) {
            return "ISE";
        }
    }

    private static int at(Object[] c, int n) {
        return (Integer) c[n];
    }

    private static boolean is(Object[] c, int n) {
        return (Boolean) c[n];
    }

    private static Object ofHall(TesseraHall x, Object[] c) {
        switch ((String) c[0]) {
            case "board": return x.board(at(c, 1), at(c, 2));
            case "clue": return x.clue(at(c, 1), at(c, 2), at(c, 3));
            case "open": return x.open(at(c, 1), at(c, 2));
            case "mark": return x.mark(at(c, 1), at(c, 2), is(c, 3));
            case "sweep": return x.sweep(at(c, 1));
            case "guess": return x.guess(at(c, 1), at(c, 2), is(c, 3));
            case "back": return x.back(at(c, 1), is(c, 2));
            case "turn": return x.turn(at(c, 1), at(c, 2));
            case "paint": return x.paint(at(c, 1), at(c, 2), at(c, 3));
            case "read": return x.read(at(c, 1));
            case "wipe": return x.wipe(at(c, 1));
            case "knock": return x.knock();
            case "ofCell": return x.ofCell(at(c, 1), at(c, 2), at(c, 3));
            case "ofLine": return x.ofLine(at(c, 1), at(c, 2), at(c, 3));
            case "way": return x.way(at(c, 1), at(c, 2), at(c, 3));
            case "ofBoard": return x.ofBoard(at(c, 1), at(c, 2));
            case "text": return x.text(at(c, 1));
            case "picture": return x.picture(at(c, 1), at(c, 2));
            case "chance": return x.chance(at(c, 1), at(c, 2));
            case "blur": return x.blur(at(c, 1), at(c, 2));
            case "many": return x.many(at(c, 1));
            case "hint": return x.hint(at(c, 1));
            case "toss": return x.toss(at(c, 1));
            case "would": return x.would(at(c, 1), at(c, 2), is(c, 3), at(c, 4));
            case "needs": return x.needs(at(c, 1));
            default: return x.alike(at(c, 1), at(c, 2));
        }
    }

    private static Object ofModel(Model x, Object[] c) {
        switch ((String) c[0]) {
            case "board": return x.board(at(c, 1), at(c, 2));
            case "clue": return x.clue(at(c, 1), at(c, 2), at(c, 3));
            case "open": return x.open(at(c, 1), at(c, 2));
            case "mark": return x.mark(at(c, 1), at(c, 2), is(c, 3));
            case "sweep": return x.sweep(at(c, 1));
            case "guess": return x.guess(at(c, 1), at(c, 2), is(c, 3));
            case "back": return x.back(at(c, 1), is(c, 2));
            case "turn": return x.turn(at(c, 1), at(c, 2));
            case "paint": return x.paint(at(c, 1), at(c, 2), at(c, 3));
            case "read": return x.read(at(c, 1));
            case "wipe": return x.wipe(at(c, 1));
            case "knock": return ++x.refused;
            case "ofCell": return x.ofCell(at(c, 1), at(c, 2), at(c, 3));
            case "ofLine": return x.ofLine(at(c, 1), at(c, 2), at(c, 3));
            case "way": return x.way(at(c, 1), at(c, 2), at(c, 3));
            case "ofBoard": return x.ofBoard(at(c, 1), at(c, 2));
            case "text": return x.text(at(c, 1));
            case "picture": return x.picture(at(c, 1), at(c, 2));
            case "chance": return x.chance(at(c, 1), at(c, 2));
            case "blur": return x.blur(at(c, 1), at(c, 2));
            case "many": return x.many(at(c, 1));
            case "hint": return x.hint(at(c, 1));
            case "toss": return x.toss(at(c, 1));
            case "would": return x.would(at(c, 1), at(c, 2), is(c, 3), at(c, 4));
            case "needs": return x.needs(at(c, 1));
            default: return x.alike(at(c, 1), at(c, 2));
        }
    }

    // ---- the model: as plain as the document, however slow

    private static final class Cell {
        char sign = '?';
        int reason = -1;
        int round = 0;
        int depth = 0;

        Cell copy() {
            Cell c = new Cell();
            c.sign = sign;
            c.reason = reason;
            c.round = round;
            c.depth = depth;
            return c;
        }

        void become(char newSign, int newReason, int newRound, int newDepth) {
            sign = newSign;
            reason = newReason;
            round = newRound;
            depth = newDepth;
        }
    }

    private static final class Guess {
        List<Cell> kept;
        int cell;
        boolean isDark;
    }

    private static final class MBoard {
        int wide;
        int high;
        List<Cell> cells = new ArrayList<>();
        List<String> clues = new ArrayList<>();
        List<Guess> guesses = new ArrayList<>();
        int mistakes = 0;
        int sweeps = 0;

        MBoard(int wide, int high) {
            this.wide = wide;
            this.high = high;
            for (int k = 0; k < wide * high; k++) {
                cells.add(new Cell());
            }
            for (int k = 0; k < wide + high; k++) {
                clues.add("open");
            }
        }

        static List<Cell> copyOf(List<Cell> cells) {
            List<Cell> copy = new ArrayList<>();
            for (Cell c : cells) {
                copy.add(c.copy());
            }
            return copy;
        }

        MBoard copy() {
            MBoard b = new MBoard(wide, high);
            b.cells = copyOf(cells);
            b.clues = new ArrayList<>(clues);
            return b;
        }

        List<Integer> placesOf(int line) {
            List<Integer> places = new ArrayList<>();
            if (line < high) {
                for (int c = 0; c < wide; c++) {
                    places.add(line * wide + c);
                }
            } else {
                for (int r = 0; r < high; r++) {
                    places.add(r * wide + (line - high));
                }
            }
            return places;
        }

        static String runsOf(String signs) {
            StringBuilder runs = new StringBuilder();
            for (String part : signs.split("\\.")) {
                if (!part.isEmpty()) {
                    runs.append(part.length());
                }
            }
            return runs.length() == 0 ? "0" : runs.toString();
        }

        List<Integer> ways(int line) {
            List<Integer> places = placesOf(line);
            List<Integer> ways = new ArrayList<>();
            for (int number = 0; number < 1 << places.size(); number++) {
                StringBuilder signs = new StringBuilder();
                boolean keeps = true;
                for (int p = 0; p < places.size(); p++) {
                    char sign = (number >> p) % 2 == 1 ? '#' : '.';
                    char known = cells.get(places.get(p)).sign;
                    keeps = keeps && (known == '?' || known == sign);
                    signs.append(sign);
                }
                if (keeps && (clues.get(line).equals("open") || clues.get(line).equals(runsOf(signs.toString())))) {
                    ways.add(number);
                }
            }
            return ways;
        }

        TreeMap<Integer, Character> following(int line) {
            TreeMap<Integer, Character> following = new TreeMap<>();
            List<Integer> ways = ways(line);
            List<Integer> places = placesOf(line);
            for (int p = 0; p < places.size() && !ways.isEmpty(); p++) {
                Set<Integer> seen = new TreeSet<>();
                for (int way : ways) {
                    seen.add((way >> p) % 2);
                }
                if (cells.get(places.get(p)).sign == '?' && seen.size() == 1) {
                    following.put(p, seen.contains(1) ? '#' : '.');
                }
            }
            return following;
        }

        int sweep() {
            int known = 0;
            for (int round = 1;; round++) {
                int inRound = 0;
                for (int line = 0; line < wide + high; line++) {
                    if (ways(line).isEmpty()) {
                        return known;
                    }
                    TreeMap<Integer, Character> following = following(line);
                    for (int p : following.keySet()) {
                        cells.get(placesOf(line).get(p)).become(following.get(p), line, round, guesses.size());
                        known++;
                        inRound++;
                    }
                }
                if (inRound == 0) {
                    return known;
                }
            }
        }

        /** The pictures looked at, each as its rows' numbers; columns that are hopeless end a search early. */
        List<int[]> pictures() {
            List<int[]> found = new ArrayList<>();
            List<List<Integer>> ways = new ArrayList<>();
            for (int line = 0; line < wide + high; line++) {
                ways.add(ways(line));
            }
            addPictures(ways, new ArrayList<>(), found);
            return found;
        }

        private void addPictures(List<List<Integer>> ways, List<Integer> rows, List<int[]> found) {
            if (found.size() == 500) {
                return;
            }
            // Small boards are looked through without any shortcut, so that the shortcut is tested, too.
            if ((wide * high > 12 || rows.size() == high) && !columnsAgree(ways, rows)) {
                return;
            }
            if (rows.size() == high) {
                found.add(rows.stream().mapToInt(Integer::intValue).toArray());
                return;
            }
            for (int way : ways.get(rows.size())) {
                rows.add(way);
                addPictures(ways, rows, found);
                rows.remove(rows.size() - 1);
            }
        }

        private boolean columnsAgree(List<List<Integer>> ways, List<Integer> rows) {
            for (int c = 0; c < wide; c++) {
                boolean agrees = false;
                for (int way : ways.get(high + c)) {
                    boolean same = true;
                    for (int r = 0; r < rows.size(); r++) {
                        same = same && (way >> r) % 2 == (rows.get(r) >> c) % 2;
                    }
                    agrees = agrees || same;
                }
                if (!agrees) {
                    return false;
                }
            }
            return true;
        }

        boolean isDarkIn(int[] picture, int cell) {
            return (picture[cell / wide] >> cell % wide) % 2 == 1;
        }

        int countSign(char sign) {
            int n = 0;
            for (Cell c : cells) {
                n += c.sign == sign ? 1 : 0;
            }
            return n;
        }

        int broken() {
            int n = 0;
            for (int line = 0; line < wide + high; line++) {
                n += ways(line).isEmpty() ? 1 : 0;
            }
            return n;
        }

        static String backwards(String clue) {
            return clue.equals("open") ? clue : new StringBuilder(clue).reverse().toString();
        }

        /** The turned board: cells are carried one by one, lines by where their first and last cells go. */
        MBoard turned(int how) {
            MBoard t = how == 2 ? new MBoard(high, wide) : new MBoard(wide, high);
            int[] to = new int[wide * high];
            for (int cell = 0; cell < wide * high; cell++) {
                int r = cell / wide;
                int c = cell % wide;
                int newR = how == 0 ? high - 1 - r : how == 1 ? r : c;
                int newC = how == 0 ? wide - 1 - c : how == 1 ? wide - 1 - c : r;
                to[cell] = newR * t.wide + newC;
            }
            int[] lineTo = new int[wide + high];
            for (int line = 0; line < wide + high; line++) {
                List<Integer> moved = new ArrayList<>();
                for (int cell : placesOf(line)) {
                    moved.add(to[cell]);
                }
                List<Integer> sorted = new ArrayList<>(moved);
                Collections.sort(sorted);
                for (int other = 0; other < wide + high; other++) {
                    if (t.placesOf(other).equals(sorted)) {
                        lineTo[line] = other;
                    }
                }
                t.clues.set(lineTo[line], moved.equals(sorted) ? clues.get(line) : backwards(clues.get(line)));
            }
            for (int cell = 0; cell < wide * high; cell++) {
                Cell c = cells.get(cell).copy();
                c.reason = c.reason < 0 ? c.reason : lineTo[c.reason];
                t.cells.set(to[cell], c);
            }
            return t;
        }
    }

    private static final class Model {
        final List<MBoard> boards = new ArrayList<>();
        int refused = 0;

        private MBoard at(int board) {
            require(board >= 0 && board < boards.size(), new IndexOutOfBoundsException());
            return boards.get(board);
        }

        private static void require(boolean holds, RuntimeException otherwise) {
            if (!holds) {
                throw otherwise;
            }
        }

        private MBoard withLine(int board, int line) {
            MBoard b = at(board);
            require(line >= 0 && line < b.wide + b.high, new IndexOutOfBoundsException());
            return b;
        }

        private MBoard withCell(int board, int cell) {
            MBoard b = at(board);
            require(cell >= 0 && cell < b.wide * b.high, new IndexOutOfBoundsException());
            return b;
        }

        int board(int wide, int high) {
            require(wide >= 2 && wide <= 5 && high >= 2 && high <= 5, new IllegalArgumentException());
            require(boards.size() < 3, new IllegalStateException());
            boards.add(new MBoard(wide, high));
            return boards.size() - 1;
        }

        int clue(int board, int line, int runs) {
            MBoard b = withLine(board, line);
            String digits = "" + runs;
            require(runs >= 0 && (runs == 0 || digits.indexOf('0') < 0), new IllegalArgumentException());
            int sum = digits.chars().map(c -> c - '0').sum();
            require(sum + digits.length() - 1 <= b.placesOf(line).size(), new IllegalArgumentException());
            b.clues.set(line, digits);
            return b.ways(line).size();
        }

        int open(int board, int line) {
            MBoard b = withLine(board, line);
            String before = b.clues.set(line, "open");
            return before.equals("open") ? -1 : Integer.parseInt(before);
        }

        boolean mark(int board, int cell, boolean isDark) {
            MBoard b = withCell(board, cell);
            Cell c = b.cells.get(cell);
            require(c.sign == '?', new IllegalStateException());
            c.become(isDark ? '#' : '.', -1, 0, b.guesses.size());
            if (b.pictures().isEmpty()) {
                c.become('?', -1, 0, 0);
                b.mistakes++;
                return false;
            }
            return true;
        }

        int sweep(int board) {
            MBoard b = at(board);
            b.sweeps++;
            return b.sweep();
        }

        int guess(int board, int cell, boolean isDark) {
            MBoard b = withCell(board, cell);
            require(b.cells.get(cell).sign == '?', new IllegalStateException());
            require(b.guesses.size() < 6, new IllegalStateException());
            Guess g = new Guess();
            g.kept = MBoard.copyOf(b.cells);
            g.cell = cell;
            g.isDark = isDark;
            b.guesses.add(g);
            b.cells.get(cell).become(isDark ? '#' : '.', -1, 0, b.guesses.size());
            return b.guesses.size();
        }

        int back(int board, boolean isWrong) {
            MBoard b = at(board);
            require(!b.guesses.isEmpty(), new IllegalStateException());
            Guess g = b.guesses.remove(b.guesses.size() - 1);
            b.cells = g.kept;
            if (isWrong) {
                b.cells.get(g.cell).become(g.isDark ? '.' : '#', -2, 0, b.guesses.size());
            }
            return g.cell;
        }

        int turn(int board, int how) {
            MBoard b = at(board);
            require(how >= 0 && how <= 2, new IllegalArgumentException());
            require(b.guesses.isEmpty(), new IllegalStateException());
            MBoard t = b.turned(how);
            t.mistakes = b.mistakes;
            t.sweeps = b.sweeps;
            boards.set(board, t);
            return t.wide;
        }

        int paint(int board, int row, int set) {
            MBoard b = at(board);
            require(row >= 0 && row < b.high, new IndexOutOfBoundsException());
            require(set >= 0 && set < Math.pow(2, b.wide), new IllegalArgumentException());
            require(b.guesses.isEmpty(), new IllegalStateException());
            for (int c = 0; c < b.wide; c++) {
                b.cells.get(row * b.wide + c).become((set >> c) % 2 == 1 ? '#' : '.', -1, 0, 0);
            }
            return b.countSign('#');
        }

        int read(int board) {
            MBoard b = at(board);
            require(b.guesses.isEmpty() && b.countSign('?') == 0, new IllegalStateException());
            int runs = 0;
            for (int line = 0; line < b.wide + b.high; line++) {
                StringBuilder signs = new StringBuilder();
                for (int cell : b.placesOf(line)) {
                    signs.append(b.cells.get(cell).sign);
                }
                String shown = MBoard.runsOf(signs.toString());
                b.clues.set(line, shown);
                runs += shown.equals("0") ? 0 : shown.length();
            }
            wipe(board);
            return runs;
        }

        int wipe(int board) {
            MBoard b = at(board);
            int known = b.wide * b.high - b.countSign('?');
            for (Cell c : b.cells) {
                c.become('?', -1, 0, 0);
            }
            b.guesses.clear();
            return known;
        }

        int ofCell(int board, int cell, int what) {
            Cell c = withCell(board, cell).cells.get(cell);
            require(what >= 0 && what <= 3, new IllegalArgumentException());
            return new int[] {"?#.".indexOf(c.sign), c.reason, c.round, c.depth}[what];
        }

        int ofLine(int board, int line, int what) {
            MBoard b = withLine(board, line);
            require(what >= 0 && what <= 5, new IllegalArgumentException());
            String clue = b.clues.get(line);
            int darks = 0;
            int lights = 0;
            TreeMap<Integer, Character> following = b.following(line);
            for (int p : following.keySet()) {
                darks += following.get(p) == '#' ? 1 << p : 0;
                lights += following.get(p) == '.' ? 1 << p : 0;
            }
            boolean isOpen = clue.equals("open");
            return new int[] {isOpen ? -1 : Integer.parseInt(clue), isOpen ? -1 : clue.equals("0") ? 0 : clue.length(),
                b.ways(line).size(), darks, lights, b.placesOf(line).size()}[what];
        }

        int way(int board, int line, int nth) {
            MBoard b = withLine(board, line);
            require(nth >= 0, new IllegalArgumentException());
            List<Integer> ways = b.ways(line);
            return nth < ways.size() ? ways.get(nth) : -1;
        }

        int ofBoard(int board, int what) {
            MBoard b = at(board);
            require(what >= 0 && what <= 10, new IllegalArgumentException());
            switch (what) {
                case 0: return b.wide;
                case 1: return b.high;
                case 2: return b.countSign('?');
                case 3: return b.countSign('#');
                case 4: return b.broken();
                case 5: return b.guesses.size();
                case 6: return b.mistakes;
                case 7: return b.pictures().size();
                case 8: return Collections.frequency(b.clues, "open");
                case 9: return b.sweeps;
                default: return settled(b);
            }
        }

        private static int settled(MBoard b) {
            List<int[]> pictures = b.pictures();
            int set = 0;
            for (int cell = 0; cell < b.wide * b.high; cell++) {
                int darks = darksIn(b, pictures, cell);
                if (!pictures.isEmpty() && b.cells.get(cell).sign == '?' && (darks == 0 || darks == pictures.size())) {
                    set += 1 << cell;
                }
            }
            return set;
        }

        private static int darksIn(MBoard b, List<int[]> pictures, int cell) {
            int darks = 0;
            for (int[] picture : pictures) {
                darks += b.isDarkIn(picture, cell) ? 1 : 0;
            }
            return darks;
        }

        String text(int board) {
            MBoard b = at(board);
            List<String> rows = new ArrayList<>();
            for (int r = 0; r < b.high; r++) {
                StringBuilder row = new StringBuilder();
                for (int cell : b.placesOf(r)) {
                    row.append(b.cells.get(cell).sign);
                }
                rows.add(row.toString());
            }
            return String.join("/", rows);
        }

        int picture(int board, int nth) {
            MBoard b = at(board);
            require(nth >= 0 && nth <= 499, new IllegalArgumentException());
            List<int[]> pictures = b.pictures();
            if (nth >= pictures.size()) {
                return -1;
            }
            int set = 0;
            for (int cell = 0; cell < b.wide * b.high; cell++) {
                set += b.isDarkIn(pictures.get(nth), cell) ? 1 << cell : 0;
            }
            return set;
        }

        double chance(int board, int cell) {
            MBoard b = withCell(board, cell);
            return chance(b, b.pictures(), cell);
        }

        private static double chance(MBoard b, List<int[]> pictures, int cell) {
            return pictures.isEmpty() ? 0.0 : (double) darksIn(b, pictures, cell) / pictures.size();
        }

        double blur(int board, int what) {
            MBoard b = at(board);
            require(what == 0 || what == 1, new IllegalArgumentException());
            if (what == 0) {
                double sum = 0.0;
                for (int line = 0; line < b.wide + b.high; line++) {
                    int unknown = 0;
                    for (int cell : b.placesOf(line)) {
                        unknown += b.cells.get(cell).sign == '?' ? 1 : 0;
                    }
                    sum += b.ways(line).size() / Math.pow(2, unknown);
                }
                return sum / (b.wide + b.high);
            }
            List<int[]> pictures = b.pictures();
            float fog = 0f;
            for (int cell = 0; cell < b.wide * b.high; cell++) {
                if (b.cells.get(cell).sign == '?' && !pictures.isEmpty()) {
                    float share = (float) darksIn(b, pictures, cell) / pictures.size();
                    fog += Math.min(share, 1f - share);
                }
            }
            return fog;
        }

        int many(int what) {
            require(what >= 0 && what <= 4, new IllegalArgumentException());
            int mistakes = 0;
            int unknown = 0;
            int guesses = 0;
            for (MBoard b : boards) {
                mistakes += b.mistakes;
                unknown += b.countSign('?');
                guesses += b.guesses.size();
            }
            return new int[] {boards.size(), refused, mistakes, unknown, guesses}[what];
        }

        int hint(int board) {
            MBoard b = at(board);
            int best = -1;
            for (int line = b.wide + b.high - 1; line >= 0; line--) {
                int size = b.following(line).size();
                if (size > 0 && (best < 0 || size >= b.following(best).size())) {
                    best = line;
                }
            }
            return best;
        }

        int toss(int board) {
            MBoard b = at(board);
            List<int[]> pictures = b.pictures();
            int best = -1;
            for (int cell = b.wide * b.high - 1; cell >= 0 && !pictures.isEmpty(); cell--) {
                double off = Math.abs(chance(b, pictures, cell) - 0.5);
                if (b.cells.get(cell).sign == '?'
                        && (best < 0 || off <= Math.abs(chance(b, pictures, best) - 0.5))) {
                    best = cell;
                }
            }
            return best;
        }

        int would(int board, int cell, boolean isDark, int what) {
            MBoard b = withCell(board, cell);
            require(what >= 0 && what <= 2, new IllegalArgumentException());
            require(b.cells.get(cell).sign == '?', new IllegalStateException());
            MBoard copy = b.copy();
            copy.cells.get(cell).sign = isDark ? '#' : '.';
            if (what == 2) {
                return copy.pictures().size();
            }
            int known = copy.sweep();
            return what == 0 ? known : copy.broken() > 0 ? 1 : 0;
        }

        int needs(int board) {
            MBoard b = at(board);
            List<int[]> pictures = b.pictures();
            if (pictures.isEmpty()) {
                return -1;
            }
            if (pictures.size() == 1) {
                return 0;
            }
            int fewest = 3;
            for (int one = 0; one < b.wide * b.high; one++) {
                for (int two = one; two < b.wide * b.high; two++) {
                    if (isAlone(b, pictures, one, two)) {
                        fewest = Math.min(fewest, one == two ? 1 : 2);
                    }
                }
            }
            return fewest == 3 ? -1 : fewest;
        }

        private static boolean isAlone(MBoard b, List<int[]> pictures, int one, int two) {
            int[] first = pictures.get(0);
            for (int[] other : pictures.subList(1, pictures.size())) {
                if (b.isDarkIn(other, one) == b.isDarkIn(first, one)
                        && b.isDarkIn(other, two) == b.isDarkIn(first, two)) {
                    return false;
                }
            }
            return true;
        }

        int alike(int one, int other) {
            MBoard a = at(one);
            MBoard b = at(other);
            for (int turning = 0; turning < 8; turning++) {
                MBoard t = a.copy();
                t = turning % 2 == 1 ? t.turned(1) : t;
                t = turning / 2 % 2 == 1 ? t.turned(0) : t;
                t = turning / 4 == 1 ? t.turned(2) : t;
                if (t.wide == b.wide && t.high == b.high && t.clues.equals(b.clues)) {
                    return turning;
                }
            }
            return -1;
        }

        long digest() {
            List<Long> values = new ArrayList<>();
            for (int what = 0; what <= 4; what++) {
                values.add((long) many(what));
            }
            for (int k = 0; k < boards.size(); k++) {
                for (int what = 0; what <= 10; what++) {
                    values.add((long) ofBoard(k, what));
                }
                for (int cell = 0; cell < boards.get(k).cells.size(); cell++) {
                    for (int what = 0; what <= 3; what++) {
                        values.add((long) ofCell(k, cell, what));
                    }
                }
                for (int line = 0; line < boards.get(k).clues.size(); line++) {
                    for (int what = 0; what <= 5; what++) {
                        values.add((long) ofLine(k, line, what));
                    }
                    values.add((long) way(k, line, 0));
                }
                values.add((long) picture(k, 0));
                values.add((long) (64 * blur(k, 0)));
                values.add((long) (64 * blur(k, 1)));
                values.add((long) hint(k));
                values.add((long) toss(k));
                values.add((long) needs(k));
                values.add((long) alike(k, 0));
            }
            long d = 58319;
            for (long v : values) {
                d = d * 31 + v;
            }
            return d;
        }
    }
}
