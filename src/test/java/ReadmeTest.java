import java.io.ByteArrayOutputStream;
import java.io.IOException;
import java.io.PrintStream;
import java.nio.file.Files;
import java.nio.file.Path;

/**
 * The example in README.md prints what the words behind its rows begin with. It stands here once more, row by row,
 * as nothing but javac compiles it. To be run in the project's folder.
 */
public final class ReadmeTest {
    private static int wrong = 0;

    public static void main(String[] args) throws IOException {
        String readme = Files.readString(Path.of("README.md"));
        String source = Files.readString(Path.of("src/test/java/ReadmeTest.java"));
        String example = source.substring(source.indexOf("void example() {"));
        int start = readme.indexOf("```java");
        String[] printed = printedByExample().split("\\R");
        int told = 0;
        for (String row : readme.substring(start + 7, readme.indexOf("```", start + 7)).trim().split("\\R")) {
            String[] parts = row.split(" // ?", 2);
            due(example.contains(parts[0].trim()), "ReadmeTest has not this row of README.md: " + row);
            if (row.contains("println")) {
                String got = told < printed.length ? printed[told] : "nothing";
                due(parts.length == 2 && (parts[1].trim() + " ").startsWith(got + " "), "printed " + got + ": " + row);
                told++;
            }
        }
        due(told > 0 && told == printed.length, told + " rows are told, " + printed.length + " printed");
        System.out.println(wrong == 0 ? "the example prints what it says" : wrong + " wrong");
        if (wrong > 0) {
            System.exit(1);
        }
    }

    private static void due(boolean holds, String what) {
        if (!holds) {
            wrong++;
            System.out.println(what);
        }
    }

    private static String printedByExample() {
        PrintStream before = System.out;
        ByteArrayOutputStream bytes = new ByteArrayOutputStream();
        System.setOut(new PrintStream(bytes, true));
        try {
            example();
        } finally {
            System.setOut(before);
        }
        return bytes.toString();
    }

    private static void example() {
        TesseraHall hall = new TesseraHall();
        int board = hall.board(3, 3);
        hall.clue(board, 0, 3);
        hall.clue(board, 3, 11);
        System.out.println(hall.ofBoard(board, 7));
        System.out.println(hall.sweep(board));
        System.out.println(hall.text(board));
        System.out.println(hall.ofCell(board, 6, 1));
        System.out.println(hall.guess(board, 4, true));
        System.out.println(hall.back(board, true));
        System.out.println(hall.chance(board, 5));
        System.out.println(hall.turn(board, 2));
        System.out.println(hall.text(board));
        try {
            hall.mark(board, 0, false);
        } catch (IllegalStateException e) {
            System.out.println("it is known");
        }
    }
}
