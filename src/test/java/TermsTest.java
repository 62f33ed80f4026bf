/** The boundary cases that the sections 1 to 5 of "Terms" name, sentence by sentence. */
public final class TermsTest extends Asking {
    public static void main(String[] args) {
        general();
        boards();
        whatFollows();
        marksAndGuesses();
        howLikely();
        turnedAndReadOff();
        end();
    }

    private static void general() {
        sentence("An object is used for at most 512 calls after it has been made", TermsTest::theLastCall);
        sentence("NONE is -1", TermsTest::none);
        sentence("A set of numbers is the sum of 2^k for each k of them", TermsTest::sets);
    }

    private static void boards() {
        sentence("BOARDS: at most 3, numbered from 0", TermsTest::atMostThreeBoards);
        sentence("each WIDE and HIGH (2 to 5)", TermsTest::sizes);
        sentence("Its CELLS are numbered row by row from above, each from the left on, from 0", TermsTest::cellNumbers);
        sentence("each is UNKNOWN (0, at first), DARK (1) or LIGHT (2)", TermsTest::cellStates);
        sentence("Its LINES: the rows from above (0 to HIGH less 1), then the columns from the left (from HIGH on)",
                TermsTest::lineNumbers);
        sentence("each has as many CELLS as LENGTH says, from the left on or from above", TermsTest::lengths);
        sentence("CLUE of a LINE: its RUNS, in their order, as decimal digits (312: RUNS of 3, 1 and 2; 0: none)",
                TermsTest::clueDigits);
        sentence("or it is OPEN (at first)", TermsTest::openAtFirst);
        sentence("so that what is not UNKNOWN stays so", TermsTest::waysKeepWhatIsKnown);
        sentence("the rows of DARK CELLS side by side, as long as they go, are just the RUNS of its CLUE in their order",
                TermsTest::waysOfEachClue);
        sentence("(any, if it is OPEN)", TermsTest::waysOfAnOpenLine);
        sentence("The number of a WAY is the set of the places (from 0) of its DARK CELLS", TermsTest::wayNumbers);
        sentence("A LINE without a WAY is BROKEN", TermsTest::brokenLines);
        sentence("so that each LINE shows one of its WAYS", TermsTest::picturesShowWays);
        sentence("in the order of the numbers of the rows, smaller ones first (that of the row 0 counts ahead of all)",
                TermsTest::orderOfPictures);
        sentence("500 of them at most; COUNT is how many are looked at", TermsTest::fiveHundredPictures);
    }

    private static void whatFollows() {
        sentence("An UNKNOWN CELL FOLLOWS from a LINE, if it is DARK in all WAYS of that, or LIGHT in all",
                TermsTest::follows);
        sentence("(and there is one)", TermsTest::nothingFollowsFromABrokenLine);
        sentence("To SWEEP a BOARD, ROUND by ROUND (from 1 on)", TermsTest::rounds);
        sentence("LINE by LINE, in the order of their numbers", TermsTest::sweepOrder);
        sentence("if it is BROKEN, the SWEEP ends at once", TermsTest::sweepEndsAtABrokenLine);
        sentence("otherwise all CELLS that FOLLOW from it become known, all together", TermsTest::allTogether);
        sentence("A ROUND in which none does is the last one", TermsTest::lastRound);
        sentence("Each CELL that became known so has that LINE as its REASON, and that ROUND", TermsTest::reasons);
    }

    private static void marksAndGuesses() {
        sentence("To MARK an UNKNOWN CELL: it is DARK or LIGHT, if COUNT (with it so) is above 0", TermsTest::marks);
        sentence("otherwise that is a MISTAKE (counted for the BOARD), and it stays UNKNOWN", TermsTest::mistakes);
        sentence("Its REASON is -1, its ROUND 0 (as of each UNKNOWN CELL)", TermsTest::reasonOfTheUnknown);
        sentence("all CELLS are kept as they are (with REASON, ROUND and DEPTH)", TermsTest::guessesKeep);
        sentence("at most 6 times one upon the other for each BOARD", TermsTest::sixGuesses);
        sentence("then it is DARK or LIGHT, whatever COUNT is (REASON -1, ROUND 0)", TermsTest::guessesWithoutPictures);
        sentence("DEPTH of a CELL is how many GUESSES stood as it became known (with its own one; 0 if it is UNKNOWN)",
                TermsTest::depths);
        sentence("all CELLS are as they were kept by the latest GUESS that stands, which stands no more",
                TermsTest::backToTheLatest);
        sentence("if it is told to be WRONG, the CELL that was guessed is the other one then (REASON -2, ROUND 0, "
                + "DEPTH by what stands then)", TermsTest::wrongGuesses);
        sentence("SETTLED is the set of UNKNOWN CELLS that are the same in all PICTURES that are looked at "
                + "(0 without any)", TermsTest::settled);
    }

    private static void howLikely() {
        sentence("in how many PICTURES that are looked at it is DARK, divided by COUNT", TermsTest::chances);
        sentence("(0.0, if COUNT is 0)", TermsTest::chanceWithoutPictures);
        sentence("how many WAYS it has, divided by 2^u with its u UNKNOWN CELLS", TermsTest::looseLines);
        sentence("from 0.0 on LOOSE of each LINE is added, by their numbers; that divided by how many there are",
                TermsTest::looseBoards);
        sentence("from 0f on, UNKNOWN CELL by UNKNOWN CELL, by their numbers, the smaller one of its share and 1f less "
                + "that is added", TermsTest::fog);
        sentence("(0f, if COUNT is 0)", TermsTest::fogWithoutPictures);
    }

    private static void turnedAndReadOff() {
        sentence("0 by a HALF: to the row HIGH less 1 less r and the column WIDE less 1 less c", TermsTest::half);
        sentence("1 by a MIRROR: left and right are exchanged", TermsTest::mirror);
        sentence("2 by a TILT: rows become columns", TermsTest::tilt);
        sentence("CELLS go with REASON (the LINE to which that one became), ROUND and DEPTH", TermsTest::turnedReasons);
        sentence("CLUES go with their LINES (their RUNS the other way round, where the LINE runs the other way then)",
                TermsTest::turnedClues);
        sentence("its CELLS are DARK in the places of a set, and LIGHT otherwise (REASON -1, ROUND 0, DEPTH 0), "
                + "whatever they were", TermsTest::paints);
        sentence("To READ a BOARD off that has no UNKNOWN CELL: the CLUE of each LINE is what it shows",
                TermsTest::readClues);
        sentence("all CELLS are UNKNOWN then", TermsTest::readLeavesUnknown);
        sentence("Neither can be done, nor a BOARD TURNED, while a GUESS stands", TermsTest::notUponAGuess);
        sentence("who knocks holds no key, and is REFUSED (counted)", TermsTest::refusals);
    }

    // ---- in general

    private static void theLastCall() {
        TesseraHall x = hallOf(5, 5);
        for (int call = 2; call < 512; call++) {
            x.knock();
        }
        due("the 512th call, many(1)", x.many(1), 510);
        TesseraHall y = hallOf(5, 5);
        y.board(5, 5);
        y.board(5, 5);
        long first = y.digest();
        for (int call = 5; call < 512; call++) {
            y.digest();
        }
        due("the 512th call, digest()", y.digest(), first);
    }

    private static void none() {
        TesseraHall x = told(2, 2, 1, 0);
        due("open(0, 3) of an OPEN LINE", x.open(0, 3), -1);
        due("CLUE of an OPEN LINE", x.ofLine(0, 3, 0), -1);
        due("its RUNS", x.ofLine(0, 3, 1), -1);
        due("way(0, 0, 2) of two", x.way(0, 0, 2), -1);
        due("picture(0, 2) of two", x.picture(0, 2), -1);
        due("hint(0) of an OPEN BOARD", hallOf(2, 2).hint(0), -1);
        due("needs(0) of an OPEN BOARD", hallOf(2, 2).needs(0), -1);
        due("toss(0) of a known BOARD", painted("##", "##").toss(0), -1);
        x.board(3, 2);
        due("alike(0, 1) of two sizes", x.alike(0, 1), -1);
    }

    private static void sets() {
        TesseraHall full = told(5, 5, 5, 5, 5, 5, 5);
        due("picture(0, 0), all DARK", full.picture(0, 0), (1 << 25) - 1);
        due("SETTLED, all CELLS", full.ofBoard(0, 10), (1 << 25) - 1);
        due("places that FOLLOW as DARK", full.ofLine(0, 0, 3), 31);
        due("places that FOLLOW as LIGHT", full.ofLine(0, 0, 4), 0);
        TesseraHall empty = told(5, 5, 0, 0, 0, 0, 0);
        due("picture(0, 0), all LIGHT", empty.picture(0, 0), 0);
        due("places that FOLLOW as LIGHT", empty.ofLine(0, 4, 4), 31);
        TesseraHall last = told(5, 5, 0, 0, 0, 0, 1, NONE, NONE, NONE, NONE, 1);
        due("picture(0, 0), only the last CELL DARK", last.picture(0, 0), 1 << 24);
        TesseraHall first = told(5, 5, 1, 0, 0, 0, 0, 1);
        due("picture(0, 0), only the first CELL DARK", first.picture(0, 0), 1);
    }

    // ---- 1. Boards

    private static void atMostThreeBoards() {
        TesseraHall x = new TesseraHall();
        for (int number = 0; number < 3; number++) {
            due("BOARDS ahead of it", x.many(0), number);
            due("board(3, 2)", x.board(3, 2), number);
        }
        due("board(3, 2), the fourth", answer(x, y -> y.board(3, 2)), STATE);
        due("BOARDS", x.many(0), 3);
        due("text(2)", x.text(2), "???/???");
        due("text(3)", answer(x, y -> y.text(3)), INDEX);
        due("text(-1)", answer(x, y -> y.text(-1)), INDEX);
    }

    private static void sizes() {
        for (int wide = 1; wide <= 6; wide++) {
            for (int high = 1; high <= 6; high++) {
                int w = wide;
                int h = high;
                boolean isRight = wide >= 2 && wide <= 5 && high >= 2 && high <= 5;
                TesseraHall x = new TesseraHall();
                due("board(" + w + ", " + h + ")", answer(x, y -> y.board(w, h)), isRight ? 0 : ARGUMENT);
                if (isRight) {
                    due("WIDE", x.ofBoard(0, 0), wide);
                    due("HIGH", x.ofBoard(0, 1), high);
                    due("UNKNOWN CELLS", x.ofBoard(0, 2), wide * high);
                }
            }
        }
    }

    private static void cellNumbers() {
        for (int wide = 2; wide <= 5; wide++) {
            for (int high = 2; high <= 5; high++) {
                for (int row = 0; row < high; row++) {
                    for (int column = 0; column < wide; column++) {
                        TesseraHall x = hallOf(wide, high);
                        x.mark(0, row * wide + column, true);
                        due("text(0)", x.text(0), only(wide, high, row, column));
                    }
                }
                int behind = wide * high;
                due("ofCell of the last", hallOf(wide, high).ofCell(0, behind - 1, 0), 0);
                due("ofCell behind the last", answer(hallOf(wide, high), x -> x.ofCell(0, behind, 0)), INDEX);
                due("ofCell ahead of the first", answer(hallOf(wide, high), x -> x.ofCell(0, -1, 0)), INDEX);
            }
        }
    }

    /** The text of a BOARD with but one CELL known, a DARK one. */
    private static String only(int wide, int high, int row, int column) {
        StringBuilder text = new StringBuilder();
        for (int r = 0; r < high; r++) {
            text.append(r > 0 ? "/" : "");
            for (int c = 0; c < wide; c++) {
                text.append(r == row && c == column ? '#' : '?');
            }
        }
        return text.toString();
    }

    private static void cellStates() {
        TesseraHall x = hallOf(3, 2);
        for (int cell = 0; cell < 6; cell++) {
            due("ofCell(0, " + cell + ", 0)", x.ofCell(0, cell, 0), 0);
        }
        x.mark(0, 0, true);
        x.mark(0, 5, false);
        due("ofCell(0, 0, 0)", x.ofCell(0, 0, 0), 1);
        due("ofCell(0, 5, 0)", x.ofCell(0, 5, 0), 2);
        due("ofCell(0, 1, 0)", x.ofCell(0, 1, 0), 0);
    }

    private static void lineNumbers() {
        for (int wide = 2; wide <= 5; wide++) {
            for (int high = 2; high <= 5; high++) {
                for (int line = 0; line < wide + high; line++) {
                    TesseraHall x = hallOf(wide, high);
                    x.clue(0, line, line < high ? wide : high);
                    x.sweep(0);
                    due("text(0) behind LINE " + line, x.text(0), onlyLine(wide, high, line));
                }
                int behind = wide + high;
                due("LENGTH behind the last LINE", answer(hallOf(wide, high), x -> x.ofLine(0, behind, 5)), INDEX);
                due("LENGTH ahead of the first LINE", answer(hallOf(wide, high), x -> x.ofLine(0, -1, 5)), INDEX);
            }
        }
    }

    private static String onlyLine(int wide, int high, int line) {
        StringBuilder text = new StringBuilder();
        for (int r = 0; r < high; r++) {
            text.append(r > 0 ? "/" : "");
            for (int c = 0; c < wide; c++) {
                text.append((line < high ? r == line : c == line - high) ? '#' : '?');
            }
        }
        return text.toString();
    }

    private static void lengths() {
        for (int wide = 2; wide <= 5; wide++) {
            for (int high = 2; high <= 5; high++) {
                TesseraHall x = hallOf(wide, high);
                int h = high;
                int w = wide;
                due("LENGTH of the row 0", x.ofLine(0, 0, 5), wide);
                due("LENGTH of the last row", x.ofLine(0, high - 1, 5), wide);
                due("LENGTH of the column 0", x.ofLine(0, high, 5), high);
                due("LENGTH of the last column", x.ofLine(0, wide + high - 1, 5), high);
                due("clue of a whole row", x.clue(0, high - 1, wide), 1);
                due("clue beyond a row", answer(x, y -> y.clue(0, h - 1, w + 1)), ARGUMENT);
                due("clue of a whole column", x.clue(0, high, high), 1);
                due("clue beyond a column", answer(x, y -> y.clue(0, h, h + 1)), ARGUMENT);
            }
        }
        TesseraHall x = hallOf(5, 4);
        x.mark(0, 4, true);
        for (int cell : new int[] {0, 1, 2, 3}) {
            x.mark(0, cell, false);
        }
        due("the WAY of the row 0, its right end DARK", x.way(0, 0, 0), 16);
        TesseraHall y = hallOf(5, 4);
        y.mark(0, 15, true);
        for (int cell : new int[] {0, 5, 10}) {
            y.mark(0, cell, false);
        }
        due("the WAY of the column 0, its lower end DARK", y.way(0, 4, 0), 8);
    }

    private static void clueDigits() {
        TesseraHall x = hallOf(5, 2);
        due("clue(0, 0, 312), too long for 5", answer(x, y -> y.clue(0, 0, 312)), ARGUMENT);
        due("clue(0, 0, 0)", x.clue(0, 0, 0), 1);
        due("the WAY of 0", x.way(0, 0, 0), 0);
        due("RUNS of 0", x.ofLine(0, 0, 1), 0);
        x.clue(0, 0, 31);
        due("the WAY of 31", x.way(0, 0, 0), setOf("###.#"));
        due("RUNS of 31", x.ofLine(0, 0, 1), 2);
        x.clue(0, 0, 13);
        due("the WAY of 13", x.way(0, 0, 0), setOf("#.###"));
        x.clue(0, 0, 111);
        due("RUNS of 111", x.ofLine(0, 0, 1), 3);
    }

    private static void openAtFirst() {
        TesseraHall x = hallOf(2, 5);
        for (int line = 0; line < 7; line++) {
            due("CLUE of " + line, x.ofLine(0, line, 0), -1);
        }
        due("OPEN LINES", x.ofBoard(0, 8), 7);
        x.clue(0, 6, 0);
        due("OPEN LINES, one told as 0", x.ofBoard(0, 8), 6);
    }

    private static void waysKeepWhatIsKnown() {
        TesseraHall x = told(5, 2, 1);
        x.mark(0, 2, false);
        due("WAYS of 1 with a LIGHT CELL", ways(x, 0), "1 2 8 16");
        x.guess(0, 3, true);
        due("WAYS of 1 with a LIGHT and a DARK CELL", ways(x, 0), "8");
        x.guess(0, 4, true);
        due("WAYS of 1 with two DARK CELLS", ways(x, 0), "");
        due("WAYS of the column of a DARK CELL", ways(x, 6), "1 3");
        due("WAYS of the column of a LIGHT CELL", ways(x, 4), "0 2");
    }

    private static void waysOfEachClue() {
        for (int length = 2; length <= 5; length++) {
            for (int clue : new int[] {0, 1, 2, 3, 4, 5, 11, 12, 13, 21, 22, 31, 111}) {
                StringBuilder want = new StringBuilder();
                for (int number = 0; number < 1 << length; number++) {
                    want.append(SHOWS[number] == clue ? " " + number : "");
                }
                if (want.length() > 0) {
                    TesseraHall x = hallOf(length, 2);
                    due("WAYS", x.clue(0, 1, clue), want.toString().trim().split(" ").length);
                    due("WAYS of " + clue + " in a row of " + length, ways(x, 1), want.toString().trim());
                    TesseraHall y = hallOf(2, length);
                    y.clue(0, length + 1, clue);
                    due("WAYS of " + clue + " in a column of " + length, ways(y, length + 1), want.toString().trim());
                }
            }
        }
        due("WAYS of 11", ways(told(5, 2, 11), 0), "5 9 10 17 18 20");
        due("WAYS of 12", ways(told(5, 2, 12), 0), "13 25 26");
        due("WAYS of 21", ways(told(5, 2, 21), 0), "11 19 22");
    }

    private static String ways(TesseraHall x, int line) {
        StringBuilder ways = new StringBuilder();
        for (int nth = 0; x.way(0, line, nth) != NONE && nth < 40; nth++) {
            ways.append(' ').append(x.way(0, line, nth));
        }
        due("WAYS of LINE " + line, x.ofLine(0, line, 2), ways.length() == 0 ? 0 : ways.toString().trim().split(" ").length);
        return ways.toString().trim();
    }

    private static void waysOfAnOpenLine() {
        for (int length = 2; length <= 5; length++) {
            TesseraHall x = hallOf(length, 2);
            due("WAYS of an OPEN LINE of " + length, x.ofLine(0, 0, 2), 1 << length);
            due("the last", x.way(0, 0, (1 << length) - 1), (1 << length) - 1);
            due("none behind that", x.way(0, 0, 1 << length), -1);
            x.clue(0, 0, 1);
            x.open(0, 0);
            due("WAYS of a LINE OPENED again", x.ofLine(0, 0, 2), 1 << length);
        }
        due("WAYS of an OPEN LINE, all known", painted("#.#", "###").ofLine(0, 0, 2), 1);
    }

    private static void wayNumbers() {
        TesseraHall x = painted("#...#", ".....", ".....", ".....", "#####");
        due("the WAY of the row 0", x.way(0, 0, 0), 1 + 16);
        due("the WAY of the row 1", x.way(0, 1, 0), 0);
        due("the WAY of the row 4", x.way(0, 4, 0), 31);
        due("the WAY of the column 0", x.way(0, 5, 0), 1 + 16);
        due("the WAY of the column 2", x.way(0, 7, 0), 16);
    }

    private static void brokenLines() {
        TesseraHall x = painted("##.", "...");
        due("BROKEN LINES, all OPEN", x.ofBoard(0, 4), 0);
        tell(x, 0, 2, 0, 1, 1, 0);
        due("BROKEN LINES, one WAY each", x.ofBoard(0, 4), 0);
        x.clue(0, 0, 11);
        due("BROKEN LINES, a row", x.ofBoard(0, 4), 1);
        x.clue(0, 4, 2);
        due("BROKEN LINES, the last column, too", x.ofBoard(0, 4), 2);
        tell(x, 0, 3, 3, 2, 2, 2);
        due("BROKEN LINES, all", x.ofBoard(0, 4), 5);
        for (int line = 0; line < 5; line++) {
            due("WAYS of " + line, x.ofLine(0, line, 2), 0);
            x.open(0, line);
        }
        due("BROKEN LINES, OPENED again", x.ofBoard(0, 4), 0);
    }

    private static void picturesShowWays() {
        // Each LINE has a WAY, but the rows have 2 DARK CELLS together, and the columns 3.
        TesseraHall x = told(2, 2, 1, 1, 2, 1);
        due("BROKEN LINES", x.ofBoard(0, 4), 0);
        due("COUNT", x.ofBoard(0, 7), 0);
        x.open(0, 3);
        due("COUNT, the last column OPEN", x.ofBoard(0, 7), 1);
        due("picture(0, 0)", x.picture(0, 0), 0b0101);
        x.guess(0, 3, true);
        due("COUNT, a CELL against it", x.ofBoard(0, 7), 0);
        due("COUNT of a known BOARD", painted("#.", ".#").ofBoard(0, 7), 1);
        due("COUNT by the columns alone", told(2, 2, NONE, NONE, 1, 2).ofBoard(0, 7), 2);
    }

    private static void orderOfPictures() {
        TesseraHall x = hallOf(2, 2);
        for (int nth = 0; nth < 16; nth++) {
            due("picture(0, " + nth + ")", x.picture(0, nth), nth / 4 + nth % 4 * 4);
        }
        TesseraHall y = sixPictures();
        int[] sets = {0b100_010_001, 0b010_100_001, 0b100_001_010, 0b001_100_010, 0b010_001_100, 0b001_010_100};
        for (int nth = 0; nth < 6; nth++) {
            due("picture(0, " + nth + ")", y.picture(0, nth), sets[nth]);
        }
    }

    private static void fiveHundredPictures() {
        TesseraHall fewer = told(5, 4, 1, 11, 2, 2);
        due("COUNT of 480", fewer.ofBoard(0, 7), 480);
        due("picture(0, 480) of 480", fewer.picture(0, 480), -1);
        TesseraHall just = told(5, 4, 1, 1, 1, 2);
        int last = 16 + (16 << 5) + (16 << 10) + (24 << 15);
        due("COUNT of 500", just.ofBoard(0, 7), 500);
        due("picture(0, 499) of 500", just.picture(0, 499), last);
        TesseraHall more = hallOf(3, 3);
        due("COUNT of 512", more.ofBoard(0, 7), 500);
        due("picture(0, 499) of 512", more.picture(0, 499), 7 + (6 << 3) + (3 << 6));
        due("chance(0, 8) of 512", more.chance(0, 8), 248.0 / 500.0);
        due("chance(0, 0) of 512", more.chance(0, 0), 244.0 / 500.0);
        due("would(0, 8, true, 2) of 256", more.would(0, 8, true, 2), 256);
        TesseraHall most = hallOf(5, 5);
        due("COUNT of 2^25", most.ofBoard(0, 7), 500);
        due("would(0, 24, false, 2) of 2^24", most.would(0, 24, false, 2), 500);
    }

    // ---- 2. What follows

    private static void follows() {
        TesseraHall x = told(5, 2, 3, 2);
        due("3 in 5: as DARK", x.ofLine(0, 0, 3), 1 << 2);
        due("3 in 5: as LIGHT", x.ofLine(0, 0, 4), 0);
        due("2 in 5: as DARK", x.ofLine(0, 1, 3), 0);
        due("2 in 5: as LIGHT", x.ofLine(0, 1, 4), 0);
        x.mark(0, 5, true);
        due("2 in 5, the first CELL DARK: as DARK, but not itself", x.ofLine(0, 1, 3), 1 << 1);
        due("2 in 5, the first CELL DARK: as LIGHT", x.ofLine(0, 1, 4), 0b11100);
        x.mark(0, 9, false);
        due("2 in 5, the last CELL LIGHT: as LIGHT, but not itself", x.ofLine(0, 1, 4), 0b01100);
        x.clue(0, 0, 22);
        due("22 in 5: as DARK", x.ofLine(0, 0, 3), 0b11011);
        due("22 in 5: as LIGHT", x.ofLine(0, 0, 4), 0b00100);
        x.sweep(0);
        due("22 in 5, all known: as DARK", x.ofLine(0, 0, 3), 0);
        due("22 in 5, all known: as LIGHT", x.ofLine(0, 0, 4), 0);
    }

    private static void nothingFollowsFromABrokenLine() {
        TesseraHall x = hallOf(5, 2);
        x.mark(0, 0, false);
        x.clue(0, 0, 5);
        due("WAYS", x.ofLine(0, 0, 2), 0);
        due("as DARK", x.ofLine(0, 0, 3), 0);
        due("as LIGHT", x.ofLine(0, 0, 4), 0);
        due("hint(0)", x.hint(0), -1);
        due("sweep(0)", x.sweep(0), 0);
    }

    /** What follows in it takes four ROUNDS; its CELL 11 stays UNKNOWN. */
    private static TesseraHall fourRounds() {
        return told(4, 4, 1, 3, NONE, 2, 2, 4, 3, NONE);
    }

    private static final String FOUR_ROUNDS =
            "2,0,2,0 1,5,1,0 2,0,2,0 2,0,2,0 "
            + "1,4,3,0 1,1,1,0 1,1,1,0 2,1,4,0 "
            + "1,4,2,0 1,5,1,0 1,6,1,0 0,-1,0,0 "
            + "2,3,3,0 1,5,1,0 1,6,2,0 2,3,2,0";

    private static void rounds() {
        TesseraHall x = fourRounds();
        due("sweep(0)", x.sweep(0), 15);
        due("ROUND of 1", x.ofCell(0, 1, 2), 1);
        due("ROUND of 0", x.ofCell(0, 0, 2), 2);
        due("ROUND of 12", x.ofCell(0, 12, 2), 3);
        due("ROUND of 7", x.ofCell(0, 7, 2), 4);
        x.clue(0, 2, 3);
        due("sweep(0) again", x.sweep(0), 1);
        due("ROUND of 11, from 1 on again", x.ofCell(0, 11, 2), 1);
        due("ROUND of 7, as it was", x.ofCell(0, 7, 2), 4);
    }

    private static void sweepOrder() {
        TesseraHall x = told(2, 2, 2, NONE, 2, 2);
        x.sweep(0);
        due("the row ahead of the columns", cells(x, 0), "1,0,1,0 1,0,1,0 1,2,1,0 1,3,1,0");
        // The row 0 is done ahead of the column 0 that gives its first CELL; the row 1 follows from both at once.
        TesseraHall y = told(3, 2, 2, 3, 2);
        y.sweep(0);
        due("a LINE behind in its ROUND, one ahead in the next", cells(y, 0),
                "1,2,1,0 1,0,1,0 2,0,2,0 1,1,1,0 1,1,1,0 1,1,1,0");
    }

    private static void sweepEndsAtABrokenLine() {
        TesseraHall first = told(3, 3, 0, 3);
        first.guess(0, 0, true);
        due("sweep(0), the row 0 BROKEN", first.sweep(0), 0);
        due("text(0)", first.text(0), "#??/???/???");
        due("SWEEPS", first.ofBoard(0, 9), 1);
        TesseraHall second = told(3, 3, 3, 0, 3);
        second.guess(0, 3, true);
        due("sweep(0), the row 1 BROKEN", second.sweep(0), 3);
        due("text(0)", second.text(0), "###/#??/???");
        TesseraHall last = told(3, 2, NONE, NONE, 2, 2, 0);
        last.guess(0, 2, true);
        due("sweep(0), the last column BROKEN", last.sweep(0), 4);
        due("text(0)", last.text(0), "###/##?");
        // The columns 0 and 2 leave the row 0 without a WAY: the ROUND 2 does not come to the row 1.
        TesseraHall later = told(4, 3, 1, 11, NONE, 3, NONE, 3);
        due("sweep(0), the row 0 BROKEN in the ROUND 2", later.sweep(0), 6);
        due("text(0)", later.text(0), "#?#?/#?#?/#?#?");
        due("what would follow from the row 1", later.ofLine(0, 1, 4), 0b1010);
        due("SWEEPS", later.ofBoard(0, 9), 1);
    }

    private static void allTogether() {
        TesseraHall x = told(5, 2, 22);
        due("sweep(0)", x.sweep(0), 5);
        due("the DARK and the LIGHT CELLS", cells(x, 0).substring(0, 39), "1,0,1,0 1,0,1,0 2,0,1,0 1,0,1,0 1,0,1,0");
        due("text(0)", x.text(0), "##.##/?????");
    }

    private static void lastRound() {
        due("sweep(0) of an OPEN BOARD", hallOf(5, 5).sweep(0), 0);
        TesseraHall x = fourRounds();
        due("sweep(0) of four ROUNDS", x.sweep(0), 15);
        due("sweep(0) again", x.sweep(0), 0);
        due("SWEEPS", x.ofBoard(0, 9), 2);
        due("sweep(0) of a known BOARD", painted("#.", ".#").sweep(0), 0);
        due("sweep(0) of all CELLS in one ROUND", told(5, 5, 5, 0, 111, 31, 13).sweep(0), 25);
    }

    private static void reasons() {
        TesseraHall x = fourRounds();
        x.sweep(0);
        due("all CELLS", cells(x, 0), FOUR_ROUNDS);
        x.guess(0, 11, false);
        x.clue(0, 0, 4);
        x.sweep(0);
        due("all CELLS but the guessed one, as they were", cells(x, 0), FOUR_ROUNDS.replace("0,-1,0,0", "2,-1,0,1"));
    }

    // ---- 3. Marks and guesses

    private static TesseraHall onePicture() {
        return told(2, 2, 1, 1, 2, NONE);
    }

    private static void marks() {
        TesseraHall x = onePicture();
        due("COUNT with the CELL 0 DARK", x.would(0, 0, true, 2), 1);
        due("mark(0, 0, true)", x.mark(0, 0, true), true);
        due("mark(0, 3, false)", x.mark(0, 3, false), true);
        due("text(0)", x.text(0), "#?/?.");
        due("mark(0, 1, false)", x.mark(0, 1, false), true);
        due("mark(0, 2, true), the last one", x.mark(0, 2, true), true);
        due("text(0)", x.text(0), "#./#.");
        due("MISTAKES", x.ofBoard(0, 6), 0);
        due("mark(0, 24, true) of 2^25 PICTURES", hallOf(5, 5).mark(0, 24, true), true);
    }

    private static void mistakes() {
        TesseraHall x = onePicture();
        x.board(2, 2);
        // With the CELL 1 DARK no LINE is BROKEN, and yet there is no PICTURE.
        due("mark(0, 1, true)", x.mark(0, 1, true), false);
        due("text(0)", x.text(0), "??/??");
        due("MISTAKES of 0", x.ofBoard(0, 6), 1);
        due("MISTAKES of 1", x.ofBoard(1, 6), 0);
        due("MISTAKES of all", x.many(2), 1);
        due("mark(0, 1, true), the same one again", x.mark(0, 1, true), false);
        due("MISTAKES of 0", x.ofBoard(0, 6), 2);
        due("mark(0, 1, false)", x.mark(0, 1, false), true);
        x.clue(0, 2, 0);
        due("mark(0, 0, true) without PICTURES", x.mark(0, 0, true), false);
        due("mark(0, 0, false) without PICTURES", x.mark(0, 0, false), false);
        due("text(0)", x.text(0), "?./??");
        due("MISTAKES of 0", x.ofBoard(0, 6), 4);
    }

    private static void reasonOfTheUnknown() {
        String unknown = "0,-1,0,0";
        TesseraHall x = onePicture();
        due("an UNKNOWN CELL", cell(x, 0, 0), unknown);
        x.mark(0, 0, true);
        due("a CELL that was MARKED", cell(x, 0, 0), "1,-1,0,0");
        x.mark(0, 1, true);
        due("a CELL behind a MISTAKE", cell(x, 0, 1), unknown);
        x.sweep(0);
        x.wipe(0);
        due("all CELLS behind wipe(0)", cells(x, 0), unknown + " " + unknown + " " + unknown + " " + unknown);
        x.guess(0, 0, true);
        x.sweep(0);
        x.back(0, false);
        due("all CELLS behind back(0, false)", cells(x, 0), unknown + " " + unknown + " " + unknown + " " + unknown);
    }

    private static void guessesKeep() {
        TesseraHall x = fourRounds();
        x.guess(0, 7, true);
        x.back(0, true);
        x.mark(0, 3, false);
        String first = cells(x, 0);
        x.guess(0, 0, false);
        x.sweep(0);
        String second = cells(x, 0);
        due("a CELL told WRONG", cell(x, 0, 7), "2,-2,0,0");
        due("a marked CELL", cell(x, 0, 3), "2,-1,0,0");
        due("a guessed CELL", cell(x, 0, 0), "2,-1,0,1");
        due("a swept CELL", cell(x, 0, 8), "1,4,1,1");
        x.guess(0, 11, true);
        due("back(0, false)", x.back(0, false), 11);
        due("all CELLS, as the second GUESS kept them", cells(x, 0), second);
        due("back(0, false)", x.back(0, false), 0);
        due("all CELLS, as the first GUESS kept them", cells(x, 0), first);
    }

    private static void sixGuesses() {
        TesseraHall x = hallOf(4, 2);
        x.board(4, 2);
        x.board(4, 2);
        for (int board = 0; board < 3; board++) {
            int on = board;
            for (int cell = 0; cell < 6; cell++) {
                due("guess(" + board + ", " + cell + ", true)", x.guess(board, cell, true), cell + 1);
            }
            due("the seventh", answer(x, y -> y.guess(on, 6, true)), STATE);
            due("GUESSES of the BOARD", x.ofBoard(board, 5), 6);
            due("text", x.text(board), "####/##??");
        }
        due("GUESSES of all", x.many(4), 18);
        due("back(1, false)", x.back(1, false), 5);
        due("guess(1, 7, false)", x.guess(1, 7, false), 6);
        due("the seventh", answer(x, y -> y.guess(1, 6, true)), STATE);
        for (int cell : new int[] {7, 4, 3, 2, 1, 0}) {
            due("back(1, false)", x.back(1, false), cell);
        }
        due("back(1, false), none left", answer(x, y -> y.back(1, false)), STATE);
        due("text(1)", x.text(1), "????/????");
        due("text(0)", x.text(0), "####/##??");
    }

    private static void guessesWithoutPictures() {
        TesseraHall x = onePicture();
        due("COUNT with the CELL 1 DARK", x.would(0, 1, true, 2), 0);
        due("guess(0, 1, true)", x.guess(0, 1, true), 1);
        due("the CELL", cell(x, 0, 1), "1,-1,0,1");
        due("COUNT", x.ofBoard(0, 7), 0);
        due("guess(0, 0, false) without PICTURES", x.guess(0, 0, false), 2);
        due("the CELL", cell(x, 0, 0), "2,-1,0,2");
        due("guess(0, 2, false) with a LINE BROKEN", x.guess(0, 2, false), 3);
        due("text(0)", x.text(0), ".#/.?");
        due("MISTAKES", x.ofBoard(0, 6), 0);
    }

    private static void depths() {
        TesseraHall x = told(3, 3, NONE, NONE, 3, NONE, NONE, 1);
        x.mark(0, 0, true);
        due("DEPTH of a marked one", x.ofCell(0, 0, 3), 0);
        x.guess(0, 1, true);
        due("DEPTH of the first GUESS, with its own one", x.ofCell(0, 1, 3), 1);
        x.mark(0, 3, true);
        due("DEPTH of one marked upon it", x.ofCell(0, 3, 3), 1);
        x.guess(0, 4, false);
        due("DEPTH of the second GUESS", x.ofCell(0, 4, 3), 2);
        x.sweep(0);
        due("text(0)", x.text(0), "##./#../###");
        due("DEPTHS", depthsOf(x), "012122222");
        due("DEPTH of the first one still", x.ofCell(0, 1, 3), 1);
        x.back(0, true);
        due("DEPTHS behind back(0, true)", depthsOf(x), "010110000");
        x.wipe(0);
        due("DEPTHS, all UNKNOWN", depthsOf(x), "000000000");
        for (int cell = 0; cell < 6; cell++) {
            x.guess(0, cell, true);
        }
        due("DEPTHS of six GUESSES", depthsOf(x), "123456000");
    }

    private static String depthsOf(TesseraHall x) {
        StringBuilder depths = new StringBuilder();
        for (int cell = 0; cell < 9; cell++) {
            depths.append(x.ofCell(0, cell, 3));
        }
        return depths.toString();
    }

    private static void backToTheLatest() {
        TesseraHall x = hallOf(3, 2);
        x.guess(0, 0, true);
        x.mark(0, 1, true);
        x.guess(0, 2, false);
        x.mark(0, 3, false);
        x.clue(0, 1, 3);
        due("text(0)", x.text(0), "##./.??");
        due("back(0, false)", x.back(0, false), 2);
        due("text(0)", x.text(0), "##?/???");
        due("GUESSES", x.ofBoard(0, 5), 1);
        due("the CLUE stays as it was told", x.ofLine(0, 1, 0), 3);
        due("back(0, false)", x.back(0, false), 0);
        due("text(0)", x.text(0), "???/???");
        due("GUESSES", x.ofBoard(0, 5), 0);
        due("back(0, false), none left", answer(x, y -> y.back(0, false)), STATE);
        due("back(0, true), none left", answer(x, y -> y.back(0, true)), STATE);
    }

    private static void wrongGuesses() {
        TesseraHall x = told(3, 2, 3);
        x.guess(0, 3, true);
        x.guess(0, 4, false);
        x.guess(0, 0, true);
        due("back(0, true) of a DARK one", x.back(0, true), 0);
        due("the CELL, two GUESSES standing", cell(x, 0, 0), "2,-2,0,2");
        due("MISTAKES, though COUNT is 0", x.ofBoard(0, 6) + x.ofBoard(0, 7), 0);
        due("back(0, true) of a LIGHT one", x.back(0, true), 4);
        due("the CELL, one GUESS standing", cell(x, 0, 4), "1,-2,0,1");
        due("the CELL 0 is UNKNOWN again", cell(x, 0, 0), "0,-1,0,0");
        due("back(0, true), the last one", x.back(0, true), 3);
        due("the CELL, no GUESS standing", cell(x, 0, 3), "2,-2,0,0");
        due("text(0)", x.text(0), "???/.??");
        x.guess(0, 5, true);
        due("back(0, false)", x.back(0, false), 5);
        due("the CELL, not told WRONG", cell(x, 0, 5), "0,-1,0,0");
    }

    private static void settled() {
        TesseraHall x = sixPictures();
        due("SETTLED of six", x.ofBoard(0, 10), 0);
        x.mark(0, 8, true);
        due("SETTLED of two, without the known CELL", x.ofBoard(0, 10), 0b011_100_100);
        x.mark(0, 4, true);
        due("SETTLED of one, without the known CELLS", x.ofBoard(0, 10), 0b011_101_111);
        x.sweep(0);
        due("SETTLED without an UNKNOWN CELL", x.ofBoard(0, 10), 0);
        x.wipe(0);
        x.clue(0, 0, 3);
        due("SETTLED without a PICTURE", x.ofBoard(0, 10), 0);
        // In the first 500 PICTURES the rows 0 to 2 and the last place of the row 3 are never DARK.
        due("SETTLED of 2^25, by those looked at", hallOf(5, 5).ofBoard(0, 10), (1 << 15) - 1 + (1 << 19));
        due("SETTLED as DARK", told(2, 2, NONE, NONE, 2).ofBoard(0, 10), 0b0101);
    }

    // ---- 4. How likely

    private static void chances() {
        TesseraHall x = sixPictures();
        due("chance(0, 4)", x.chance(0, 4), 2.0 / 6.0);
        x.mark(0, 0, true);
        due("chance(0, 0) of a DARK one", x.chance(0, 0), 1.0);
        due("chance(0, 1) that is LIGHT in all", x.chance(0, 1), 0.0);
        due("chance(0, 8)", x.chance(0, 8), 0.5);
        x.mark(0, 8, false);
        due("chance(0, 8) of a LIGHT one", x.chance(0, 8), 0.0);
        due("chance(0, 5) that is DARK in all", x.chance(0, 5), 1.0);
        due("chance(0, 24) of 2^25, by those looked at", hallOf(5, 5).chance(0, 24), (15 * 16 + 4) / 500.0);
        due("chance(0, 20) of 2^25, by those looked at", hallOf(5, 5).chance(0, 20), 0.5);
    }

    private static void chanceWithoutPictures() {
        TesseraHall x = sixPictures();
        x.mark(0, 0, true);
        x.clue(0, 0, 0);
        for (int cell = 0; cell < 9; cell++) {
            due("chance(0, " + cell + ")", x.chance(0, cell), 0.0);
        }
        TesseraHall y = told(2, 2, 1, 1, 2, 1);
        due("chance(0, 0), no LINE BROKEN", y.chance(0, 0), 0.0);
    }

    private static void looseLines() {
        // The other LINES are OPEN: each of them is LOOSE by 1.0.
        due("11 in 5, none known", told(5, 2, 11).blur(0, 0), (6.0 / 32 + 6) / 7);
        TesseraHall one = told(5, 2, 11);
        one.mark(0, 0, true);
        due("11 in 5, one known", one.blur(0, 0), (3.0 / 16 + 6) / 7);
        TesseraHall all = painted("#.#..", ".....");
        due("OPEN and all known", all.blur(0, 0), 1.0);
        all.clue(0, 0, 11);
        due("one WAY and all known", all.blur(0, 0), 1.0);
        all.clue(0, 0, 5);
        due("BROKEN and all known", all.blur(0, 0), 6.0 / 7);
        TesseraHall broken = told(5, 2, 0);
        broken.guess(0, 4, true);
        due("BROKEN, one known", broken.blur(0, 0), 6.0 / 7);
        due("0 in 5", told(5, 2, 0).blur(0, 0), (1.0 / 32 + 6) / 7);
    }

    private static void looseBoards() {
        due("2 by 2, OPEN", hallOf(2, 2).blur(0, 0), 1.0);
        due("5 by 5, OPEN", hallOf(5, 5).blur(0, 0), 1.0);
        TesseraHall x = told(2, 5, 1, 0, 2, 1, 0, 5, 11);
        due("2 by 5, all told", x.blur(0, 0), (0.5 + 0.25 + 0.25 + 0.5 + 0.25 + 1.0 / 32 + 6.0 / 32) / 7);
        TesseraHall y = told(3, 3, 3, 3, 3, 3, 3, 3);
        for (int cell : new int[] {0, 4, 5}) {
            y.guess(0, cell, false);
        }
        due("all BROKEN but the row 2", y.blur(0, 0), (0.0 + 0.0 + 1.0 / 8 + 0.0 + 0.0 + 0.0) / 6);
        y.guess(0, 6, false);
        due("all BROKEN", y.blur(0, 0), 0.0);
    }

    private static void fog() {
        TesseraHall x = told(5, 2, 1, 21);
        int[] darks = {3, 3, 3, 3, 3, 10, 15, 5, 5, 10};
        float sum = 0f;
        for (int dark : darks) {
            float share = (float) dark / 15;
            float rest = 1f - share;
            sum += share < rest ? share : rest;
        }
        // Added from behind, or as doubles, it would be another one.
        due("blur(0, 1)", x.blur(0, 1), (double) sum);
        due("blur(0, 1) is", x.blur(0, 1), 2.3333332538604736);
        TesseraHall y = told(5, 2, 4, 0);
        due("blur(0, 1) of halves and wholes", y.blur(0, 1), 1.0);
        y.mark(0, 0, true);
        due("blur(0, 1) of one PICTURE", y.blur(0, 1), 0.0);
        // Known CELLS are left out, whatever their share.
        TesseraHall z = sixPictures();
        z.mark(0, 0, true);
        due("blur(0, 1) of four halves", z.blur(0, 1), 2.0);
        due("blur(0, 1) of a known BOARD", painted("#.", ".#").blur(0, 1), 0.0);
    }

    private static void fogWithoutPictures() {
        TesseraHall x = sixPictures();
        x.clue(0, 0, 3);
        due("blur(0, 1)", x.blur(0, 1), 0.0);
        due("blur(0, 1), no LINE BROKEN", told(2, 2, 1, 1, 2, 1).blur(0, 1), 0.0);
    }

    // ---- 5. Turned and read off

    private static void half() {
        eachCellGoes(0);
        TesseraHall x = hallOf(3, 5);
        x.mark(0, 7, true);
        x.turn(0, 0);
        due("the CELL in the middle stays", x.text(0), "???/???/?#?/???/???");
    }

    private static void mirror() {
        eachCellGoes(1);
        TesseraHall x = painted("##.", "#.#");
        x.turn(0, 1);
        due("text(0), the middle column stays", x.text(0), ".##/#.#");
    }

    private static void tilt() {
        eachCellGoes(2);
        TesseraHall x = painted("#.#", "##.");
        due("turn(0, 2)", x.turn(0, 2), 2);
        due("HIGH", x.ofBoard(0, 1), 3);
        due("text(0)", x.text(0), "##/.#/#.");
    }

    private static void eachCellGoes(int how) {
        for (int wide = 2; wide <= 5; wide++) {
            for (int high = 2; high <= 5; high++) {
                for (int cell = 0; cell < wide * high; cell++) {
                    TesseraHall x = hallOf(wide, high);
                    x.mark(0, cell, true);
                    int row = cell / wide;
                    int column = cell % wide;
                    due("turn(0, " + how + ")", x.turn(0, how), how == 2 ? high : wide);
                    String want = how == 2 ? only(high, wide, column, row)
                            : only(wide, high, how == 0 ? high - 1 - row : row, wide - 1 - column);
                    due("text(0) of " + cell + " in " + wide + " by " + high, x.text(0), want);
                }
            }
        }
    }

    private static TesseraHall sweptAndTold() {
        TesseraHall x = told(4, 3, NONE, 2, NONE, NONE, 3, NONE, 1);
        // Swept: 1, 5 and 9 by the column 1 or the row 1; marked: 3; told WRONG: 8.
        x.guess(0, 8, true);
        x.back(0, true);
        x.sweep(0);
        x.mark(0, 3, true);
        x.sweep(0);
        return x;
    }

    private static void turnedReasons() {
        TesseraHall x = sweptAndTold();
        due("as it was", cells(x, 0), "0,-1,0,0 1,4,1,0 0,-1,0,0 1,-1,0,0 0,-1,0,0 1,4,1,0 0,-1,0,0 2,1,2,0 "
                + "2,-2,0,0 1,4,1,0 0,-1,0,0 2,6,1,0");
        x.turn(0, 0);
        due("by a HALF", cells(x, 0), "2,3,1,0 0,-1,0,0 1,5,1,0 2,-2,0,0 2,1,2,0 0,-1,0,0 1,5,1,0 0,-1,0,0 "
                + "1,-1,0,0 0,-1,0,0 1,5,1,0 0,-1,0,0");
        TesseraHall y = sweptAndTold();
        y.turn(0, 1);
        due("by a MIRROR", cells(y, 0), "1,-1,0,0 0,-1,0,0 1,5,1,0 0,-1,0,0 2,1,2,0 0,-1,0,0 1,5,1,0 0,-1,0,0 "
                + "2,3,1,0 0,-1,0,0 1,5,1,0 2,-2,0,0");
        TesseraHall z = sweptAndTold();
        z.turn(0, 2);
        due("by a TILT", cells(z, 0), "0,-1,0,0 0,-1,0,0 2,-2,0,0 1,1,1,0 1,1,1,0 1,1,1,0 0,-1,0,0 0,-1,0,0 0,-1,0,0 "
                + "1,-1,0,0 2,5,2,0 2,3,1,0");
        reasonsOfRows();
    }

    /** The first row is the REASON; by a HALF it becomes the last one. */
    private static void reasonsOfRows() {
        TesseraHall x = told(2, 3, 2);
        x.sweep(0);
        x.turn(0, 0);
        due("REASON of 4, behind a HALF", cell(x, 0, 4), "1,2,1,0");
        x.turn(0, 2);
        due("REASON of 2, behind a TILT", cell(x, 0, 2), "1,4,1,0");
        x.turn(0, 1);
        due("REASON of 0, behind a MIRROR", cell(x, 0, 0), "1,2,1,0");
        due("all that FOLLOWS is there", x.sweep(0), 0);
    }

    private static TesseraHall toldAskew() {
        return told(5, 4, 12, NONE, 0, 31, 21, 11, NONE, 12, 4);
    }

    private static void turnedClues() {
        due("as told", clues(toldAskew()), "12 -1 0 31 21 11 -1 12 4");
        TesseraHall x = toldAskew();
        x.turn(0, 0);
        due("by a HALF", clues(x), "13 0 -1 21 4 21 -1 11 12");
        TesseraHall y = toldAskew();
        y.turn(0, 1);
        due("by a MIRROR", clues(y), "21 -1 0 13 4 12 -1 11 21");
        TesseraHall z = toldAskew();
        z.turn(0, 2);
        due("by a TILT", clues(z), "21 11 -1 12 4 12 -1 0 31");
        due("OPEN LINES", z.ofBoard(0, 8), 2);
    }

    private static String clues(TesseraHall x) {
        StringBuilder clues = new StringBuilder();
        for (int line = 0; line < x.ofBoard(0, 0) + x.ofBoard(0, 1); line++) {
            clues.append(line > 0 ? " " : "").append(x.ofLine(0, line, 0));
        }
        return clues.toString();
    }

    private static void paints() {
        for (int wide = 2; wide <= 5; wide++) {
            TesseraHall x = hallOf(wide, 3);
            due("paint(0, 1, 0)", x.paint(0, 1, 0), 0);
            due("text(0)", x.text(0).split("/")[1], ".....".substring(0, wide));
            due("paint(0, 1, all places)", x.paint(0, 1, (1 << wide) - 1), wide);
            due("text(0)", x.text(0).split("/")[1], "#####".substring(0, wide));
            due("paint(0, 2, the last place)", x.paint(0, 2, 1 << wide - 1), wide + 1);
            due("text(0)", x.text(0).split("/")[2], "....#".substring(5 - wide));
        }
        TesseraHall x = told(3, 2, 3);
        x.guess(0, 3, true);
        x.back(0, true);
        x.sweep(0);
        due("all CELLS", cells(x, 0), "1,0,1,0 1,0,1,0 1,0,1,0 2,-2,0,0 0,-1,0,0 0,-1,0,0");
        due("paint(0, 0, 4), against its CLUE", x.paint(0, 0, 4), 1);
        due("paint(0, 1, 3)", x.paint(0, 1, 3), 3);
        due("all CELLS", cells(x, 0), "2,-1,0,0 2,-1,0,0 1,-1,0,0 1,-1,0,0 1,-1,0,0 2,-1,0,0");
        due("MISTAKES", x.ofBoard(0, 6), 0);
        due("CLUE of the row 0", x.ofLine(0, 0, 0), 3);
    }

    private static void readClues() {
        for (int number = 0; number < 32; number++) {
            TesseraHall x = hallOf(5, 2);
            x.paint(0, 0, number);
            x.paint(0, 1, 31 - number);
            x.read(0);
            due("CLUE of the row " + number, x.ofLine(0, 0, 0), SHOWS[number]);
            due("CLUE of the row " + (31 - number), x.ofLine(0, 1, 0), SHOWS[31 - number]);
            due("CLUE of the column 0", x.ofLine(0, 2, 0), 1);
            due("OPEN LINES", x.ofBoard(0, 8), 0);
            TesseraHall y = hallOf(2, 5);
            for (int row = 0; row < 5; row++) {
                y.paint(0, row, 2 * (number >> row & 1));
            }
            y.read(0);
            due("CLUE of the column 0", y.ofLine(0, 5, 0), 0);
            due("CLUE of the column 1, " + number, y.ofLine(0, 6, 0), SHOWS[number]);
        }
    }

    private static void readLeavesUnknown() {
        TesseraHall x = told(2, 2, 1, 2);
        x.paint(0, 0, 1);
        due("read(0) with two UNKNOWN CELLS", answer(x, y -> y.read(0)), STATE);
        x.sweep(0);
        due("read(0)", x.read(0), 1 + 1 + 1 + 1);
        due("all CELLS", cells(x, 0), "0,-1,0,0 0,-1,0,0 0,-1,0,0 0,-1,0,0");
        due("CLUES", clues(x), "1 2 2 1");
        due("read(0) of UNKNOWN CELLS", answer(x, y -> y.read(0)), STATE);
        TesseraHall y = hallOf(2, 2);
        y.paint(0, 0, 3);
        y.mark(0, 2, true);
        due("read(0) with one UNKNOWN CELL, the last one", answer(y, z -> z.read(0)), STATE);
        y.mark(0, 3, false);
        due("read(0)", y.read(0), 1 + 1 + 1 + 1);
    }

    private static void notUponAGuess() {
        TesseraHall x = painted("#.", ".#");
        x.read(0);
        x.board(2, 2);
        x.guess(1, 0, true);
        due("turn(0, 0), a GUESS on the other BOARD", x.turn(0, 0), 2);
        due("paint(0, 0, 3), a GUESS on the other BOARD", x.paint(0, 0, 3), 2);
        due("paint(0, 1, 1), a GUESS on the other BOARD", x.paint(0, 1, 1), 3);
        due("read(0), a GUESS on the other BOARD", x.read(0), 4);
        for (int how = 0; how < 3; how++) {
            int by = how;
            due("turn(1, " + how + ")", answer(x, y -> y.turn(1, by)), STATE);
        }
        due("paint(1, 1, 3)", answer(x, y -> y.paint(1, 1, 3)), STATE);
        due("paint(1, 0, 1), as it is", answer(x, y -> y.paint(1, 0, 1)), STATE);
        for (int cell = 1; cell < 4; cell++) {
            x.mark(1, cell, true);
        }
        due("read(1), all known", answer(x, y -> y.read(1)), STATE);
        x.back(1, true);
        due("paint(1, 1, 3) behind back", x.paint(1, 1, 3), 2);
        due("turn(1, 1) behind back", x.turn(1, 1), 2);
        x.guess(1, 0, true);
        due("turn(1, 1) upon another GUESS", answer(x, y -> y.turn(1, 1)), STATE);
        x.wipe(1);
        due("turn(1, 2) behind wipe", x.turn(1, 2), 2);
        due("paint(1, 0, 0) behind wipe", x.paint(1, 0, 0), 0);
        due("paint(1, 1, 0) behind wipe", x.paint(1, 1, 0), 0);
        due("read(1) behind wipe", x.read(1), 0);
    }

    private static void refusals() {
        TesseraHall x = new TesseraHall();
        due("REFUSED, none", x.many(1), 0);
        due("knock()", x.knock(), 1);
        due("knock()", x.knock(), 2);
        due("a call that throws", answer(x, y -> y.text(0)), INDEX);
        due("REFUSED, the knocks alone", x.many(1), 2);
    }
}
