import java.math.BigInteger;
import java.util.ArrayList;
import java.util.List;

/** The boundary cases that the promises 1 to 28 name in what they do and in their "Returns". */
public final class ReturnsTest extends Asking {
    /** Its rows and columns read otherwise from the other end, and no two of its turnings are the same. */
    private static final String[] SKEW = {"#.##.", "....#", "##..#", "#.#.#"};

    public static void main(String[] args) {
        boardsAreMade();
        boardsAreChanged();
        whatIsAsked();
        whatWouldBe();
        end();
    }

    private static void boardsAreMade() {
        sentence("1: Creates a hall without BOARDS", ReturnsTest::newHall);
        sentence("2: Makes a BOARD. Returns its number", ReturnsTest::boardNumbers);
        sentence("3: Tells the CLUE of a LINE, in place of the one before", ReturnsTest::cluesInPlace);
        sentence("3: Returns how many WAYS it has then", ReturnsTest::waysOfAClue);
        sentence("4: Returns its CLUE before; NONE, if it was OPEN", ReturnsTest::opens);
        sentence("5: Returns whether that is no MISTAKE", ReturnsTest::marks);
        sentence("6: Returns how many CELLS became known", ReturnsTest::sweeps);
    }

    private static void boardsAreChanged() {
        sentence("7: Returns how many GUESSES stand then", ReturnsTest::guesses);
        sentence("8: Returns the CELL that was guessed", ReturnsTest::backs);
        sentence("9: Returns WIDE then", ReturnsTest::turns);
        sentence("10: Returns how many CELLS of the BOARD are DARK then", ReturnsTest::paints);
        sentence("11: Returns how many RUNS all its LINES have together", ReturnsTest::reads);
        sentence("12: all CELLS are UNKNOWN, no GUESS stands; CLUES stay", ReturnsTest::wipes);
        sentence("12: Returns how many CELLS were not UNKNOWN", ReturnsTest::wipedCells);
        sentence("13: Returns how many were REFUSED ever, with this one", ReturnsTest::knocks);
    }

    private static void whatIsAsked() {
        sentence("14: 0 what it is (0 UNKNOWN, 1 DARK, 2 LIGHT), 1 its REASON, 2 ROUND, 3 DEPTH", ReturnsTest::cells);
        sentence("15: 0 its CLUE (NONE, if it is OPEN), 1 how many RUNS that has (NONE likewise)", ReturnsTest::lines);
        sentence("15: 2 how many WAYS it has, 3 the set of the places of CELLS that FOLLOW as DARK ones, 4 as LIGHT "
                + "ones, 5 LENGTH", ReturnsTest::lineSets);
        sentence("16: that of its WAYS that has so many with smaller numbers; NONE, if there is none",
                ReturnsTest::ways);
        sentence("17: 0 WIDE .. 10 SETTLED", ReturnsTest::ofBoards);
        sentence("17: 6 MISTAKES ever, 9 SWEEPS ever", ReturnsTest::countsEver);
        sentence("18: row by row, as signs, with a \"/\" between two rows", ReturnsTest::texts);
        sentence("19: the PICTURE that is looked at behind so many others; NONE, if there is none",
                ReturnsTest::pictures);
        sentence("20: Returns its CHANCE", ReturnsTest::chances);
        sentence("21: 0 how LOOSE it is, 1 its FOG (made double)", ReturnsTest::blurs);
        sentence("22: 0 BOARDS, 1 how many were REFUSED, 2 MISTAKES on all BOARDS, 3 UNKNOWN CELLS of all, 4 GUESSES "
                + "that stand on all", ReturnsTest::manies);
    }

    private static void whatWouldBe() {
        sentence("what would be (nothing is changed)", ReturnsTest::nothingIsChanged);
        sentence("23: the LINE from which the most CELLS FOLLOW now; of several that with the smallest number; NONE, "
                + "if none does", ReturnsTest::hints);
        sentence("24: the UNKNOWN CELL whose CHANCE less 0.5 (a double, without its sign) is the smallest",
                ReturnsTest::tosses);
        sentence("24: of several the smallest number", ReturnsTest::tossesOfSeveral);
        sentence("24: NONE without an UNKNOWN CELL, or if COUNT is 0", ReturnsTest::noToss);
        sentence("25: 0 how many CELLS would become known by a SWEEP, if it were so (that one not counted)",
                ReturnsTest::wouldBeKnown);
        sentence("25: 1 1 if a LINE would be BROKEN behind that SWEEP, otherwise 0", ReturnsTest::wouldBeBroken);
        sentence("25: 2 COUNT if it were so (without a SWEEP)", ReturnsTest::wouldCount);
        sentence("26: how few CELLS (0, 1 or 2) one has to know", ReturnsTest::needs);
        sentence("26: NONE, if 2 are too few, or COUNT is 0", ReturnsTest::needsNone);
        sentence("27: the smallest number of 0 to 7, with 1 in it for MIRROR first, 2 for HALF next, 4 for TILT last",
                ReturnsTest::alikes);
        sentence("27: (LINE by LINE, OPEN ones, too, with WIDE and HIGH as turned the same)", ReturnsTest::alikeOpen);
        sentence("27: (0: as they are); NONE, if by none", ReturnsTest::alikeNone);
        sentence("28: A number d starts with 58319; then d becomes d * 31 + v", ReturnsTest::digests);
        sentence("28: which wraps around as a 64-bit integer", ReturnsTest::digestWraps);
        sentence("28: (the products cut to whole numbers)", ReturnsTest::digestCuts);
    }

    // ---- boards are made

    private static void newHall() {
        TesseraHall x = new TesseraHall();
        for (int what = 0; what <= 4; what++) {
            due("many(" + what + ")", x.many(what), 0);
        }
        due("ofBoard(0, 0)", answer(x, y -> y.ofBoard(0, 0)), INDEX);
        x.board(2, 2);
        x.knock();
        due("BOARDS of another hall", new TesseraHall().many(0), 0);
        due("REFUSED by another hall", new TesseraHall().many(1), 0);
    }

    private static void boardNumbers() {
        TesseraHall x = new TesseraHall();
        due("board(2, 2)", x.board(2, 2), 0);
        due("board(5, 5)", x.board(5, 5), 1);
        due("board(6, 5)", answer(x, y -> y.board(6, 5)), ARGUMENT);
        due("board(2, 5)", x.board(2, 5), 2);
        due("text(2)", x.text(2), "??/??/??/??/??");
    }

    private static void cluesInPlace() {
        TesseraHall x = hallOf(5, 2);
        x.clue(0, 0, 5);
        due("clue(0, 0, 0)", x.clue(0, 0, 0), 1);
        due("CLUE", x.ofLine(0, 0, 0), 0);
        due("WAY", x.way(0, 0, 0), 0);
        due("clue(0, 0, 0), the same again", x.clue(0, 0, 0), 1);
        due("clue(0, 0, 111)", x.clue(0, 0, 111), 1);
        due("CLUE", x.ofLine(0, 0, 0), 111);
        due("CLUE of the next row", x.ofLine(0, 1, 0), -1);
        due("CLUE of the first column", x.ofLine(0, 2, 0), -1);
        pictureOfTheNewClue();
    }

    /** Whichever LINE has a new CLUE, the first one or the last one: the PICTURES are those of the new one. */
    private static void pictureOfTheNewClue() {
        TesseraHall x = told(2, 2, 1, NONE, 1, 1);
        due("picture(0, 0)", x.picture(0, 0), 0b1001);
        int[][] first = {{0, 0b1100}, {2, 0b0011}, {1, 0b1001}};
        for (int[] row : first) {
            x.clue(0, 0, row[0]);
            due("picture(0, 0) with " + row[0] + " for the first LINE", x.picture(0, 0), row[1]);
        }
        int[][] last = {{0, 0b0001}, {2, 0b1110}, {1, 0b1001}};
        for (int[] row : last) {
            x.clue(0, 3, row[0]);
            due("picture(0, 0) with " + row[0] + " for the last LINE", x.picture(0, 0), row[1]);
        }
    }

    private static void waysOfAClue() {
        TesseraHall x = hallOf(5, 2);
        due("clue(0, 0, 11)", x.clue(0, 0, 11), 6);
        x.guess(0, 1, true);
        due("clue(0, 0, 11) behind a DARK CELL", x.clue(0, 0, 11), 2);
        due("clue(0, 0, 111), none", x.clue(0, 0, 111), 0);
        due("clue(0, 0, 0), none", x.clue(0, 0, 0), 0);
        due("clue(0, 3, 1) of its column", x.clue(0, 3, 1), 1);
        due("clue(0, 3, 0) of its column, none", x.clue(0, 3, 0), 0);
        due("clue(0, 0, 5)", x.clue(0, 0, 5), 1);
        due("text(0), no CELL FOLLOWS by itself", x.text(0), "?#???/?????");
    }

    private static void opens() {
        TesseraHall x = told(5, 2, 0, 111);
        x.clue(0, 6, 2);
        due("open(0, 0), it was 0", x.open(0, 0), 0);
        due("open(0, 0), it was OPEN", x.open(0, 0), -1);
        due("open(0, 1)", x.open(0, 1), 111);
        due("open(0, 6), the last LINE", x.open(0, 6), 2);
        due("open(0, 2), OPEN since ever", x.open(0, 2), -1);
        due("OPEN LINES", x.ofBoard(0, 8), 7);
    }

    private static void marks() {
        TesseraHall x = told(2, 2, 1, 0);
        due("mark(0, 2, true)", x.mark(0, 2, true), false);
        due("mark(0, 2, false)", x.mark(0, 2, false), true);
        due("mark(0, 0, true)", x.mark(0, 0, true), true);
        due("mark(0, 1, true)", x.mark(0, 1, true), false);
        due("mark(0, 1, false)", x.mark(0, 1, false), true);
        due("MISTAKES", x.ofBoard(0, 6), 2);
    }

    private static void sweeps() {
        due("sweep(0), none", hallOf(2, 2).sweep(0), 0);
        due("sweep(0), all", told(2, 2, 2, 0).sweep(0), 4);
        TesseraHall x = told(5, 5, 5, 5, 5, 5, 5);
        x.mark(0, 12, true);
        due("sweep(0), all but the known one", x.sweep(0), 24);
        due("sweep(0), none left", x.sweep(0), 0);
        TesseraHall y = told(3, 2, 3, 0, 0);
        due("sweep(0), up to the BROKEN LINE", y.sweep(0), 6);
        due("BROKEN LINES", y.ofBoard(0, 4), 1);
    }

    // ---- boards are changed

    private static void guesses() {
        TesseraHall x = hallOf(3, 2);
        for (int cell = 5; cell >= 0; cell--) {
            due("guess(0, " + cell + ", false)", x.guess(0, cell, false), 6 - cell);
        }
        x.back(0, true);
        due("guess behind back", answer(x, y -> y.guess(0, 0, true)), STATE);
        x.back(0, false);
        due("guess(0, 1, true), the fifth again", x.guess(0, 1, true), 5);
        x.wipe(0);
        due("guess(0, 1, true) behind wipe", x.guess(0, 1, true), 1);
    }

    private static void backs() {
        TesseraHall x = hallOf(5, 5);
        x.guess(0, 24, true);
        x.guess(0, 0, false);
        x.mark(0, 7, true);
        x.sweep(0);
        due("back(0, true), the first CELL", x.back(0, true), 0);
        due("back(0, false), the last CELL", x.back(0, false), 24);
    }

    private static void turns() {
        TesseraHall x = hallOf(5, 2);
        due("turn(0, 0)", x.turn(0, 0), 5);
        due("turn(0, 1)", x.turn(0, 1), 5);
        due("turn(0, 2)", x.turn(0, 2), 2);
        due("WIDE", x.ofBoard(0, 0), 2);
        due("HIGH", x.ofBoard(0, 1), 5);
        due("turn(0, 0)", x.turn(0, 0), 2);
        due("turn(0, 2)", x.turn(0, 2), 5);
    }

    private static void paints() {
        TesseraHall x = hallOf(5, 5);
        due("paint(0, 4, 0)", x.paint(0, 4, 0), 0);
        for (int row = 0; row < 5; row++) {
            due("paint(0, " + row + ", 31)", x.paint(0, row, 31), 5 * (row + 1));
        }
        due("paint(0, 0, 16)", x.paint(0, 0, 16), 21);
        TesseraHall y = told(2, 2, 2);
        y.board(2, 2);
        y.paint(1, 0, 3);
        y.sweep(0);
        due("paint(0, 1, 1), on this BOARD alone", y.paint(0, 1, 1), 3);
    }

    private static void reads() {
        due("read(0), none", painted("..", "..").read(0), 0);
        due("read(0), all DARK", painted("#####", "#####", "#####", "#####", "#####").read(0), 10);
        due("read(0), every other one", painted("#.#.#", ".#.#.", "#.#.#", ".#.#.", "#.#.#").read(0), 26);
        due("read(0), one CELL", painted("...", "..#").read(0), 2);
    }

    private static void wipes() {
        TesseraHall x = told(3, 2, 3, 11);
        x.board(2, 2);
        x.mark(1, 0, true);
        x.sweep(0);
        x.guess(1, 1, true);
        x.wipe(1);
        x.wipe(0);
        due("text(0)", x.text(0), "???/???");
        due("a CELL that was swept", cell(x, 0, 0), "0,-1,0,0");
        due("a CELL that was guessed", cell(x, 1, 1), "0,-1,0,0");
        due("GUESSES", x.many(4), 0);
        due("back(1, false)", answer(x, y -> y.back(1, false)), STATE);
        due("CLUE of the row 0", x.ofLine(0, 0, 0), 3);
        due("CLUE of the row 1", x.ofLine(0, 1, 0), 11);
        due("CLUE of the column 0", x.ofLine(0, 2, 0), -1);
        x.guess(1, 3, true);
        due("back(1, true), of the GUESS behind wipe", x.back(1, true), 3);
        due("text(1)", x.text(1), "??/?.");
    }

    private static void wipedCells() {
        TesseraHall x = hallOf(5, 5);
        x.board(5, 5);
        due("wipe(0), none", x.wipe(0), 0);
        for (int row = 0; row < 5; row++) {
            x.paint(0, row, row);
        }
        due("wipe(1), none on this BOARD", x.wipe(1), 0);
        due("wipe(0), all, DARK and LIGHT ones", x.wipe(0), 25);
        due("wipe(0), none left", x.wipe(0), 0);
        x.guess(0, 0, true);
        x.guess(0, 1, false);
        due("wipe(0), two GUESSES", x.wipe(0), 2);
    }

    private static void knocks() {
        TesseraHall x = hallOf(2, 2);
        due("knock()", x.knock(), 1);
        x.wipe(0);
        due("knock()", x.knock(), 2);
        due("many(1)", x.many(1), 2);
        due("many(0), nothing else is changed", x.many(0), 1);
    }

    // ---- what is asked

    private static void cells() {
        TesseraHall x = told(2, 5, NONE, NONE, NONE, NONE, 2);
        due("the first CELL, UNKNOWN", cell(x, 0, 0), "0,-1,0,0");
        x.guess(0, 0, false);
        x.guess(0, 1, true);
        x.sweep(0);
        due("the first CELL, LIGHT", cell(x, 0, 0), "2,-1,0,1");
        due("the second CELL, DARK", cell(x, 0, 1), "1,-1,0,2");
        due("the last CELL", cell(x, 0, 9), "1,4,1,2");
        x.back(0, true);
        due("the second CELL, told WRONG", cell(x, 0, 1), "2,-2,0,1");
        TesseraHall y = told(2, 5, NONE, NONE, NONE, NONE, NONE, NONE, 5);
        y.sweep(0);
        due("the last CELL, by the last LINE", cell(y, 0, 9), "1,6,1,0");
    }

    private static void lines() {
        TesseraHall x = hallOf(5, 3);
        due("CLUE of an OPEN LINE", x.ofLine(0, 0, 0), -1);
        due("its RUNS", x.ofLine(0, 0, 1), -1);
        int[][] runs = {{0, 0}, {5, 1}, {11, 2}, {22, 2}, {111, 3}};
        for (int[] row : runs) {
            x.clue(0, 2, row[0]);
            due("CLUE", x.ofLine(0, 2, 0), row[0]);
            due("RUNS of " + row[0], x.ofLine(0, 2, 1), row[1]);
        }
        x.clue(0, 7, 3);
        due("CLUE of the last column", x.ofLine(0, 7, 0), 3);
        due("RUNS of the last column", x.ofLine(0, 7, 1), 1);
        x.open(0, 2);
        due("RUNS of a LINE OPENED again", x.ofLine(0, 2, 1), -1);
    }

    private static void lineSets() {
        TesseraHall x = told(5, 2, 4, 0, 2);
        due("WAYS of 4", x.ofLine(0, 0, 2), 2);
        due("as DARK from 4", x.ofLine(0, 0, 3), 0b01110);
        due("as LIGHT from 4", x.ofLine(0, 0, 4), 0);
        due("as DARK from 0", x.ofLine(0, 1, 3), 0);
        due("as LIGHT from 0", x.ofLine(0, 1, 4), 31);
        due("as DARK from the column 0", x.ofLine(0, 2, 3), 3);
        due("LENGTH of the row", x.ofLine(0, 1, 5), 5);
        due("LENGTH of the column", x.ofLine(0, 2, 5), 2);
        x.sweep(0);
        due("WAYS of the column 0, BROKEN by the rows", x.ofLine(0, 2, 2), 0);
        due("as DARK from the column 0", x.ofLine(0, 2, 3), 0);
        due("as LIGHT from the column 0", x.ofLine(0, 2, 4), 0);
        due("LENGTH of a BROKEN LINE", x.ofLine(0, 2, 5), 2);
    }

    private static void ways() {
        TesseraHall x = told(5, 2, 2);
        int[] numbers = {3, 6, 12, 24, -1, -1};
        for (int nth = 0; nth < 6; nth++) {
            due("way(0, 0, " + nth + ") of 2", x.way(0, 0, nth), numbers[nth]);
        }
        for (int nth : new int[] {31, 32, 500, MAX}) {
            due("way(0, 0, " + nth + ") of 2", x.way(0, 0, nth), -1);
        }
        due("way(0, 1, 31) of an OPEN LINE", x.way(0, 1, 31), 31);
        due("way(0, 1, 32) of an OPEN LINE", x.way(0, 1, 32), -1);
        due("way(0, 6, 3) of an OPEN column", x.way(0, 6, 3), 3);
        due("way(0, 6, 4) of an OPEN column", x.way(0, 6, 4), -1);
        x.mark(0, 0, false);
        due("way(0, 0, 0) with its first CELL LIGHT", x.way(0, 0, 0), 6);
        x.clue(0, 0, 5);
        due("way(0, 0, 0) of a BROKEN LINE", x.way(0, 0, 0), -1);
    }

    private static void ofBoards() {
        TesseraHall x = hallOf(5, 2);
        due("all of a new BOARD", ofBoard(x, 0), "5 2 10 0 0 0 0 500 7 0 16");
        x.clue(0, 0, 0);
        x.clue(0, 2, 2);
        due("all without a PICTURE, no LINE BROKEN", ofBoard(x, 0), "5 2 10 0 0 0 0 0 5 0 0");
        x.guess(0, 0, true);
        x.mark(0, 9, true);
        due("all with a LINE BROKEN", ofBoard(x, 0), "5 2 9 1 1 1 1 0 5 0 0");
        TesseraHall y = painted("##", "##");
        due("all of a DARK BOARD", ofBoard(y, 0), "2 2 0 4 0 0 0 1 4 0 0");
        tell(y, 0, 0, 0, 0, 0);
        due("all LINES BROKEN", ofBoard(y, 0), "2 2 0 4 4 0 0 0 0 0 0");
        y.wipe(0);
        due("all of one PICTURE", ofBoard(y, 0), "2 2 4 0 0 0 0 1 0 0 15");
        y.board(2, 2);
        for (int cell = 0; cell < 4; cell++) {
            y.guess(1, cell, false);
        }
        due("all of four GUESSES", ofBoard(y, 1), "2 2 0 0 0 4 0 1 4 0 0");
    }

    private static String ofBoard(TesseraHall x, int board) {
        StringBuilder told = new StringBuilder();
        for (int what = 0; what <= 10; what++) {
            told.append(what > 0 ? " " : "").append(x.ofBoard(board, what));
        }
        return told.toString();
    }

    private static void countsEver() {
        TesseraHall x = told(3, 2, 0);
        x.mark(0, 0, true);
        x.sweep(0);
        x.sweep(0);
        x.wipe(0);
        due("MISTAKES behind wipe", x.ofBoard(0, 6), 1);
        due("SWEEPS behind wipe", x.ofBoard(0, 9), 2);
        x.turn(0, 2);
        due("MISTAKES behind turn", x.ofBoard(0, 6), 1);
        due("SWEEPS behind turn", x.ofBoard(0, 9), 2);
        x.guess(0, 0, true);
        x.sweep(0);
        x.mark(0, 2, true);
        x.back(0, true);
        due("MISTAKES behind back", x.ofBoard(0, 6), 2);
        due("SWEEPS behind back", x.ofBoard(0, 9), 3);
        x.would(0, 2, true, 0);
        x.would(0, 2, true, 1);
        due("SWEEPS that only would be", x.ofBoard(0, 9), 3);
        for (int row = 0; row < 3; row++) {
            x.paint(0, row, 0);
        }
        x.read(0);
        due("MISTAKES behind read", x.ofBoard(0, 6), 2);
        due("SWEEPS behind read", x.ofBoard(0, 9), 3);
    }

    private static void texts() {
        for (int wide = 2; wide <= 5; wide++) {
            for (int high = 2; high <= 5; high++) {
                StringBuilder want = new StringBuilder();
                for (int row = 0; row < high; row++) {
                    want.append(row > 0 ? "/" : "").append("?????", 0, wide);
                }
                due("text(0)", hallOf(wide, high).text(0), want.toString());
            }
        }
        TesseraHall x = hallOf(3, 2);
        x.mark(0, 0, true);
        x.mark(0, 2, false);
        x.mark(0, 5, true);
        due("text(0)", x.text(0), "#?./??#");
        due("text(0), all known", painted("#.#", ".#.").text(0), "#.#/.#.");
    }

    private static void pictures() {
        TesseraHall x = told(5, 2, 4, 0);
        due("picture(0, 0)", x.picture(0, 0), 0b01111);
        due("picture(0, 1)", x.picture(0, 1), 0b11110);
        due("picture(0, 2) of two", x.picture(0, 2), -1);
        due("picture(0, 499) of two", x.picture(0, 499), -1);
        x.guess(0, 5, true);
        due("picture(0, 0) of none", x.picture(0, 0), -1);
        TesseraHall y = hallOf(5, 5);
        due("picture(0, 499) of 2^25", y.picture(0, 499), (499 / 32 << 15) + (499 % 32 << 20));
        due("picture(0, 0) of a known BOARD", painted("#.", ".#").picture(0, 0), 0b1001);
        due("picture(0, 0), all LIGHT", painted("..", "..").picture(0, 0), 0);
    }

    private static void chances() {
        TesseraHall x = told(5, 2, 3, 0);
        double[] want = {1 / 3.0, 2 / 3.0, 1.0, 2 / 3.0, 1 / 3.0, 0.0, 0.0, 0.0, 0.0, 0.0};
        for (int cell = 0; cell < 10; cell++) {
            due("chance(0, " + cell + ")", x.chance(0, cell), want[cell]);
        }
        x.guess(0, 9, true);
        due("chance(0, 9) without PICTURES", x.chance(0, 9), 0.0);
        TesseraHall y = told(2, 5, 0, 0, 0, 0, 2);
        due("chance(0, 7) of 2 by 5", y.chance(0, 7), 0.0);
        due("chance(0, 9), the last CELL of 2 by 5", y.chance(0, 9), 1.0);
    }

    private static void blurs() {
        TesseraHall x = sixPictures();
        due("blur(0, 0)", x.blur(0, 0), 0.375);
        float fog = 0f;
        for (int cell = 0; cell < 9; cell++) {
            fog += 2f / 6f;
        }
        due("blur(0, 1)", x.blur(0, 1), (double) fog);
        due("blur(0, 1) of an OPEN BOARD", hallOf(2, 2).blur(0, 1), 2.0);
        due("blur(0, 0) of an OPEN BOARD", hallOf(2, 2).blur(0, 0), 1.0);
    }

    private static void manies() {
        TesseraHall x = new TesseraHall();
        due("many() without BOARDS", many(x), "0 0 0 0 0");
        x.board(5, 5);
        due("many() of one BOARD", many(x), "1 0 0 25 0");
        x.board(2, 2);
        x.clue(0, 0, 0);
        x.mark(0, 0, true);
        x.mark(0, 1, true);
        x.guess(0, 2, true);
        due("many() of two BOARDS", many(x), "2 0 2 28 1");
        x.board(3, 3);
        x.clue(2, 5, 0);
        x.mark(2, 8, true);
        x.guess(2, 0, false);
        x.guess(2, 1, false);
        x.knock();
        due("many() of three BOARDS", many(x), "3 1 3 35 3");
        x.wipe(0);
        x.wipe(2);
        due("many() behind wipe", many(x), "3 1 3 38 0");
    }

    private static String many(TesseraHall x) {
        StringBuilder told = new StringBuilder();
        for (int what = 0; what <= 4; what++) {
            told.append(what > 0 ? " " : "").append(x.many(what));
        }
        return told.toString();
    }

    // ---- what would be

    private static void nothingIsChanged() {
        TesseraHall x = sixPictures();
        x.board(3, 3);
        x.guess(0, 0, true);
        x.sweep(0);
        x.guess(0, 4, false);
        String before = sight(x);
        x.hint(0);
        x.toss(0);
        for (int what = 0; what < 3; what++) {
            x.would(0, 8, true, what);
            x.would(1, 8, false, what);
        }
        x.needs(0);
        x.alike(0, 1);
        x.digest();
        due("all that is seen", sight(x), before);
        due("back(0, true)", x.back(0, true), 4);
        due("text(0)", x.text(0), "#../.#?/.??");
    }

    private static void hints() {
        due("hint(0), none", hallOf(5, 5).hint(0), -1);
        due("hint(0), one CELL alone", told(5, 5, NONE, NONE, NONE, 3).hint(0), 3);
        TesseraHall x = told(5, 5, NONE, NONE, NONE, 3, NONE, NONE, NONE, NONE, NONE, 4);
        due("hint(0), the last LINE of all", x.hint(0), 9);
        x.clue(0, 4, 4);
        due("hint(0), of two the smaller one", x.hint(0), 4);
        x.clue(0, 3, 31);
        due("hint(0), DARK and LIGHT ones together", x.hint(0), 3);
        x.clue(0, 0, 0);
        due("hint(0), LIGHT ones as many", x.hint(0), 0);
        x.sweep(0);
        due("hint(0), nothing is left to FOLLOW", x.hint(0), -1);
        due("hint(0) of a known BOARD", painted("#.", ".#").hint(0), -1);
    }

    private static void tosses() {
        TesseraHall x = told(5, 2, 3, 0);
        // 2.0 / 3 less 0.5 is a smaller double than 0.5 less 1.0 / 3.
        due("toss(0) of a third and two thirds", x.toss(0), 1);
        TesseraHall y = told(5, 2, 1, 4);
        due("toss(0), the halves come last", y.toss(0), 5);
        y.mark(0, 5, true);
        due("toss(0) of fifths and wholes", y.toss(0), 0);
        TesseraHall z = told(5, 2, 0, 4);
        due("toss(0), behind five that are LIGHT in all", z.toss(0), 5);
        z.guess(0, 5, true);
        due("toss(0) of one PICTURE", z.toss(0), 0);
    }

    private static void tossesOfSeveral() {
        due("toss(0) of an OPEN BOARD", hallOf(2, 2).toss(0), 0);
        TesseraHall x = sixPictures();
        x.mark(0, 0, true);
        due("toss(0) of four halves", x.toss(0), 4);
        // A quarter above, three quarters below, and the other way round.
        TesseraHall y = told(4, 2, 1, NONE, 1, 1, 1, 1);
        due("chance(0, 0)", y.chance(0, 0), 0.25);
        due("toss(0), the smaller ones first", y.toss(0), 0);
        y.turn(0, 0);
        due("chance(0, 0)", y.chance(0, 0), 0.75);
        due("toss(0), the larger ones first", y.toss(0), 0);
        y.mark(0, 0, true);
        due("toss(0) without the first CELL", y.toss(0), 1);
    }

    private static void noToss() {
        due("toss(0) of a known BOARD", painted("#.", ".#").toss(0), -1);
        TesseraHall x = told(2, 2, 1, 1, 2, 1);
        due("COUNT", x.ofBoard(0, 7), 0);
        due("toss(0) without PICTURES", x.toss(0), -1);
        TesseraHall y = hallOf(2, 2);
        for (int cell = 0; cell < 3; cell++) {
            y.mark(0, cell, true);
        }
        due("toss(0) with one UNKNOWN CELL, the last one", y.toss(0), 3);
    }

    private static void wouldBeKnown() {
        TesseraHall x = sixPictures();
        due("would(0, 4, true, 0)", x.would(0, 4, true, 0), 4);
        due("would(0, 4, false, 0)", x.would(0, 4, false, 0), 0);
        x.mark(0, 0, true);
        due("would(0, 4, true, 0), all the others", x.would(0, 4, true, 0), 7);
        due("would(0, 24, true, 0) of an OPEN BOARD", hallOf(5, 5).would(0, 24, true, 0), 0);
        due("would(0, 0, true, 0), the others FOLLOW anyway", told(2, 2, 2, 2).would(0, 0, true, 0), 3);
        TesseraHall y = painted("##", "##");
        y.wipe(0);
        tell(y, 0, 2, 2);
        due("would(0, 0, false, 0), the row 0 BROKEN at once", y.would(0, 0, false, 0), 0);
        due("would(0, 2, false, 0), the row 1 BROKEN", y.would(0, 2, false, 0), 2);
    }

    private static void wouldBeBroken() {
        // No LINE is BROKEN as long as it is not SWEPT.
        TesseraHall x = told(2, 2, 1, 1, 2, NONE);
        due("would(0, 1, true, 1)", x.would(0, 1, true, 1), 1);
        due("would(0, 1, true, 0)", x.would(0, 1, true, 0), 1);
        due("would(0, 1, false, 1)", x.would(0, 1, false, 1), 0);
        TesseraHall y = told(2, 2, 0);
        due("would(0, 0, true, 1), BROKEN at once", y.would(0, 0, true, 1), 1);
        due("would(0, 3, true, 1)", y.would(0, 3, true, 1), 0);
        y.guess(0, 0, true);
        due("would(0, 3, true, 1), BROKEN already", y.would(0, 3, true, 1), 1);
        due("BROKEN LINES", y.ofBoard(0, 4), 1);
    }

    private static void wouldCount() {
        TesseraHall x = sixPictures();
        due("would(0, 0, true, 2)", x.would(0, 0, true, 2), 2);
        due("would(0, 0, false, 2)", x.would(0, 0, false, 2), 4);
        x.guess(0, 4, true);
        due("would(0, 5, true, 2)", x.would(0, 5, true, 2), 0);
        due("would(0, 0, true, 2), the last one", x.would(0, 0, true, 2), 1);
        due("would(0, 0, true, 2) of 2^24", hallOf(5, 5).would(0, 0, true, 2), 500);
        due("would(0, 0, true, 2) of 256", hallOf(3, 3).would(0, 0, true, 2), 256);
        due("COUNT as it was", x.ofBoard(0, 7), 2);
        TesseraHall y = sixPictures();
        y.mark(0, 4, true);
        y.wipe(0);
        due("would(0, 4, true, 2), MARKED before and wiped", y.would(0, 4, true, 2), 2);
        wouldCountOnEachBoard(2, 3);
        wouldCountOnEachBoard(3, 2);
    }

    /** All LINES of the BOARD 0 are LIGHT, and so are as many of the BOARD 1, whose last LINE is BROKEN. */
    private static void wouldCountOnEachBoard(int wide, int high) {
        TesseraHall x = told(wide, high, 0, 0, 0, 0, 0);
        x.board(3, 3);
        tell(x, 1, 0, 0, 0, 0, 0, 3);
        x.guess(1, 8, false);
        due("would(0, 0, false, 2) of one PICTURE", x.would(0, 0, false, 2), 1);
        due("would(1, 0, false, 2) of none", x.would(1, 0, false, 2), 0);
        due("would(0, 0, false, 2) of one PICTURE", x.would(0, 0, false, 2), 1);
        due("mark(0, 0, false)", x.mark(0, 0, false), true);
        due("mark(1, 0, false)", x.mark(1, 0, false), false);
    }

    private static void needs() {
        due("needs(0) of one PICTURE", told(2, 2, 2, 0).needs(0), 0);
        due("needs(0) of a known BOARD", painted("#.", ".#").needs(0), 0);
        due("needs(0) of two PICTURES", told(2, 2, NONE, 0, 0).needs(0), 1);
        due("needs(0) of five, by the first CELL", told(5, 2, 1, 0).needs(0), 1);
        due("needs(0) of five, by the last CELL", told(5, 2, 0, NONE, 0, 0, 0, 0).needs(0), 1);
        due("needs(0) of four", told(2, 2, NONE, 0).needs(0), 2);
        due("needs(0) of six", told(5, 2, 11, 0).needs(0), 2);
        due("needs(0) of four, by the last two CELLS", told(5, 2, 0, NONE, 0, 0, 0).needs(0), 2);
        due("needs(0) of four, by the last two of 2 by 5", told(2, 5, 0, 0, 0, 0).needs(0), 2);
    }

    private static void needsNone() {
        due("needs(0) of eight, 3 CELLS", told(3, 2, NONE, 0).needs(0), -1);
        due("needs(0) of an OPEN BOARD", hallOf(5, 5).needs(0), -1);
        TesseraHall x = told(2, 2, 1, 1, 2, 1);
        due("needs(0) without PICTURES", x.needs(0), -1);
        x.open(0, 3);
        due("needs(0) of one", x.needs(0), 0);
        x.guess(0, 1, true);
        due("needs(0) without PICTURES", x.needs(0), -1);
    }

    /** A hall with two BOARDS that have the CLUES of these rows. */
    private static TesseraHall twins(String... rows) {
        TesseraHall x = new TesseraHall();
        paintNew(x, rows);
        paintNew(x, rows);
        x.read(0);
        x.read(1);
        return x;
    }

    private static void alikes() {
        for (int turning = 0; turning < 8; turning++) {
            TesseraHall x = twins(SKEW);
            turnBy(x, turning);
            due("alike(0, 1) behind " + turning, x.alike(0, 1), turning);
        }
        // By a TILT first, and then a MIRROR, it is as by all three in their order.
        TesseraHall x = twins(SKEW);
        x.turn(1, 2);
        x.turn(1, 1);
        due("alike(0, 1) behind TILT and MIRROR", x.alike(0, 1), 7);
        due("alike(1, 0), back by MIRROR and TILT", x.alike(1, 0), 5);
        for (int turning = 0; turning < 8; turning++) {
            TesseraHall same = twins("###", "###", "###");
            turnBy(same, turning);
            due("alike(0, 1), all turnings the same, behind " + turning, same.alike(0, 1), 0);
            TesseraHall even = twins("#.#", "###", "...");
            turnBy(even, turning);
            due("alike(0, 1), left as right, behind " + turning, even.alike(0, 1), turning & 6);
        }
    }

    private static void turnBy(TesseraHall x, int turning) {
        if ((turning & 1) != 0) {
            x.turn(1, 1);
        }
        if ((turning & 2) != 0) {
            x.turn(1, 0);
        }
        if ((turning & 4) != 0) {
            x.turn(1, 2);
        }
    }

    private static void alikeOpen() {
        TesseraHall x = hallOf(3, 3);
        x.board(3, 3);
        due("alike(0, 1), all OPEN", x.alike(0, 1), 0);
        x.clue(0, 0, 0);
        due("alike(0, 1), OPEN is not 0", x.alike(0, 1), -1);
        x.clue(1, 2, 0);
        due("alike(0, 1), the last row by a HALF", x.alike(0, 1), 2);
        x.open(1, 2);
        x.clue(1, 5, 0);
        due("alike(0, 1), the last column", x.alike(0, 1), 6);
        TesseraHall y = hallOf(2, 3);
        y.board(3, 2);
        due("alike(0, 1), OPEN, by a TILT alone", y.alike(0, 1), 4);
        TesseraHall z = hallOf(2, 3);
        z.board(2, 4);
        due("alike(0, 1) of other sizes", z.alike(0, 1), -1);
        TesseraHall w = hallOf(2, 5);
        w.board(3, 4);
        due("alike(0, 1), as many LINES", w.alike(0, 1), -1);
    }

    private static void alikeNone() {
        TesseraHall x = twins(SKEW);
        due("alike(0, 1)", x.alike(0, 1), 0);
        due("alike(1, 1)", x.alike(1, 1), 0);
        x.clue(1, 8, 21);
        due("alike(0, 1), the last CLUE another", x.alike(0, 1), -1);
        x.clue(1, 8, 3);
        x.guess(1, 0, true);
        due("alike(0, 1) of twins, whatever their CELLS", x.alike(0, 1), 0);
    }

    private static void digests() {
        due("digest() without BOARDS", new TesseraHall().digest(), 58319L * 31 * 31 * 31 * 31 * 31);
        TesseraHall knocked = new TesseraHall();
        knocked.knock();
        due("digest() behind a knock", knocked.digest(), (58319L * 31 * 31 + 1) * 31 * 31 * 31);
        TesseraHall x = sixPictures();
        x.guess(0, 0, true);
        x.sweep(0);
        due("digest() of one BOARD", x.digest(), wrapped(valuesOf(x)));
        x.board(5, 2);
        x.clue(1, 0, 0);
        x.mark(1, 0, true);
        x.board(2, 2);
        due("digest() of three BOARDS", x.digest(), wrapped(valuesOf(x)));
    }

    /** The numbers in the order of the promise 28. */
    private static List<Long> valuesOf(TesseraHall x) {
        List<Long> values = new ArrayList<>();
        for (int what = 0; what <= 4; what++) {
            values.add((long) x.many(what));
        }
        for (int b = 0; b < x.many(0); b++) {
            for (int what = 0; what <= 10; what++) {
                values.add((long) x.ofBoard(b, what));
            }
            for (int cell = 0; cell < x.ofBoard(b, 0) * x.ofBoard(b, 1); cell++) {
                for (int what = 0; what <= 3; what++) {
                    values.add((long) x.ofCell(b, cell, what));
                }
            }
            for (int line = 0; line < x.ofBoard(b, 0) + x.ofBoard(b, 1); line++) {
                for (int what = 0; what <= 5; what++) {
                    values.add((long) x.ofLine(b, line, what));
                }
                values.add((long) x.way(b, line, 0));
            }
            values.add((long) x.picture(b, 0));
            values.add((long) Math.floor(64 * x.blur(b, 0)));
            values.add((long) Math.floor(64 * x.blur(b, 1)));
            values.add((long) x.hint(b));
            values.add((long) x.toss(b));
            values.add((long) x.needs(b));
            values.add((long) x.alike(b, 0));
        }
        return values;
    }

    private static BigInteger whole(List<Long> values) {
        BigInteger d = BigInteger.valueOf(58319);
        for (long v : values) {
            d = d.multiply(BigInteger.valueOf(31)).add(BigInteger.valueOf(v));
        }
        return d;
    }

    private static long wrapped(List<Long> values) {
        return whole(values).longValue();
    }

    private static void digestWraps() {
        TesseraHall x = hallOf(2, 2);
        due("it goes beyond 64 bits", whole(valuesOf(x)).bitLength() > 64, true);
        boolean anyBelow = false;
        boolean anyAbove = false;
        for (int n = 0; n < 20; n++) {
            x.knock();
            long d = x.digest();
            due("digest()", d, wrapped(valuesOf(x)));
            anyBelow = anyBelow || d < 0;
            anyAbove = anyAbove || d > 0;
        }
        due("it comes below 0 and above", anyBelow && anyAbove, true);
    }

    private static void digestCuts() {
        // 64 times both are 56.57.. and 234.66..
        TesseraHall x = told(5, 2, 11);
        due("64 times blur(0, 0) is no whole number", (long) Math.rint(64 * x.blur(0, 0)), 57L);
        due("digest()", x.digest(), wrapped(valuesOf(x)));
        TesseraHall y = told(5, 2, 11, 2, NONE, NONE, NONE, 1);
        due("64 times blur(0, 1) is no whole number", (long) Math.rint(64 * y.blur(0, 1)), 235L);
        due("digest()", y.digest(), wrapped(valuesOf(y)));
    }
}
