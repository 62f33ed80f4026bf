import java.io.IOException;
import java.lang.reflect.Constructor;
import java.lang.reflect.Field;
import java.lang.reflect.Method;
import java.lang.reflect.Modifier;
import java.nio.file.Files;
import java.nio.file.Path;
import java.util.ArrayList;
import java.util.Collections;
import java.util.List;
import java.util.Set;
import java.util.TreeMap;
import java.util.TreeSet;
import java.util.regex.Matcher;
import java.util.regex.Pattern;

/**
 * The face of the class is just that of the document, and its source keeps to those rules of LANGUAGE.md that a
 * look at the words can tell. To be run in the project's folder.
 */
public final class FaceTest {
    private static final Path SOURCE = Path.of("src/main/java/TesseraHall.java");
    private static final Path DOCUMENT = Path.of("../shared/DOC.md");
    private static int wrong = 0;

    private static final String[] FACE = {
        "int board(int, int) IllegalArgumentException IllegalStateException",
        "int clue(int, int, int) IndexOutOfBoundsException IllegalArgumentException",
        "int open(int, int) IndexOutOfBoundsException",
        "boolean mark(int, int, boolean) IndexOutOfBoundsException IllegalStateException",
        "int sweep(int) IndexOutOfBoundsException",
        "int guess(int, int, boolean) IndexOutOfBoundsException IllegalStateException",
        "int back(int, boolean) IndexOutOfBoundsException IllegalStateException",
        "int turn(int, int) IndexOutOfBoundsException IllegalArgumentException IllegalStateException",
        "int paint(int, int, int) IndexOutOfBoundsException IllegalArgumentException IllegalStateException",
        "int read(int) IndexOutOfBoundsException IllegalStateException",
        "int wipe(int) IndexOutOfBoundsException",
        "int knock()",
        "int ofCell(int, int, int) IndexOutOfBoundsException IllegalArgumentException",
        "int ofLine(int, int, int) IndexOutOfBoundsException IllegalArgumentException",
        "int way(int, int, int) IndexOutOfBoundsException IllegalArgumentException",
        "int ofBoard(int, int) IndexOutOfBoundsException IllegalArgumentException",
        "String text(int) IndexOutOfBoundsException",
        "int picture(int, int) IndexOutOfBoundsException IllegalArgumentException",
        "double chance(int, int) IndexOutOfBoundsException",
        "double blur(int, int) IndexOutOfBoundsException IllegalArgumentException",
        "int many(int) IllegalArgumentException",
        "int hint(int) IndexOutOfBoundsException",
        "int toss(int) IndexOutOfBoundsException",
        "int would(int, int, boolean, int) IndexOutOfBoundsException IllegalArgumentException IllegalStateException",
        "int needs(int) IndexOutOfBoundsException",
        "int alike(int, int) IndexOutOfBoundsException",
        "long digest()"};

    /** Words and signs that the rules leave out, each with the rule's number. */
    private static final String[] LEFT_OUT = {
        "3 \\bMath\\.(abs|sqrt|pow|floor|ceil|round|rint)\\b", "4 Exact\\(", "4 \\bimport\\b", "4 \\bpackage\\b",
        "5 \\bstatic \\{", "6 \\bfinally\\b", "6 \\bcatch\\b", "6 \\bsynchronized\\b", "6 \\bassert\\b",
        "6 getMessage", "6 \\bequals\\(", "6 hashCode", "6 toString\\(\\) \\{", "3 ->", "3 ::", "10 \" \\+", "10 \\+ \"",
        "13 \\bSystem\\.(?!arraycopy)", "13 \\bThread\\b", "13 \\bRandom\\b"};

    public static void main(String[] args) throws IOException {
        checkFace();
        checkInside(TesseraHall.class);
        checkSource(Files.readString(SOURCE));
        checkOrder(Files.readString(DOCUMENT), Files.readString(SOURCE));
        checkCalls(Files.readString(SOURCE));
        System.out.println(wrong == 0 ? "the face and the source are as due" : wrong + " wrong");
        if (wrong > 0) {
            System.exit(1);
        }
    }

    private static void due(boolean holds, String what) {
        if (!holds) {
            wrong++;
            System.out.println(what);
        }
    }

    private static void checkFace() {
        int wants = Modifier.PUBLIC | Modifier.FINAL;
        due(TesseraHall.class.getModifiers() == wants, "the class is not just public and final");
        Constructor<?>[] made = TesseraHall.class.getDeclaredConstructors();
        due(made.length == 1 && made[0].getParameterCount() == 0 && Modifier.isPublic(made[0].getModifiers()),
                "there is another constructor than the public one");
        List<String> found = new ArrayList<>();
        Set<String> hidden = new TreeSet<>();
        for (Method method : TesseraHall.class.getDeclaredMethods()) {
            if (Modifier.isPrivate(method.getModifiers())) {
                hidden.add(method.getName());
            } else {
                found.add(method.getModifiers() == Modifier.PUBLIC ? described(method) : "not public: " + method);
            }
        }
        List<String> want = new ArrayList<>(List.of(FACE));
        Collections.sort(want);
        Collections.sort(found);
        due(want.equals(found), "the face is " + found);
        for (String row : FACE) {
            due(!hidden.contains(row.replaceAll("\\(.*", "").replaceAll(".* ", "")), "a private method bears " + row);
        }
    }

    private static String described(Method method) {
        StringBuilder row = new StringBuilder();
        row.append(method.getReturnType().getSimpleName()).append(' ').append(method.getName()).append('(');
        for (Class<?> type : method.getParameterTypes()) {
            row.append(row.charAt(row.length() - 1) == '(' ? "" : ", ").append(type.getSimpleName());
        }
        row.append(')');
        for (Class<?> type : method.getExceptionTypes()) {
            row.append(' ').append(type.getSimpleName());
        }
        return row.toString();
    }

    /** Rules 1, 5 and 11: what the classes hold. */
    private static void checkInside(Class<?> type) {
        int fields = 0;
        for (Field field : type.getDeclaredFields()) {
            due(Modifier.isPrivate(field.getModifiers()), "not private: " + field);
            due(!Modifier.isStatic(field.getModifiers()) || Modifier.isFinal(field.getModifiers()), "static: " + field);
            fields += Modifier.isStatic(field.getModifiers()) ? 0 : 1;
        }
        due(fields <= 20, type + " has " + fields + " fields");
        for (Method method : type.getDeclaredMethods()) {
            due(method.getParameterCount() <= 7, "too many parameters: " + method);
        }
        for (Class<?> inside : type.getDeclaredClasses()) {
            due(Modifier.isStatic(inside.getModifiers()) && Modifier.isPrivate(inside.getModifiers()),
                    "not private and static: " + inside);
            checkInside(inside);
        }
    }

    private static void checkSource(String source) {
        String code = source.replaceAll("(?s)/\\*.*?\\*/", "").replaceAll("//[^\n]*", "");
        for (String row : LEFT_OUT) {
            Matcher matcher = Pattern.compile(row.substring(row.indexOf(' ') + 1)).matcher(code);
            due(!matcher.find(), "rule " + row.substring(0, row.indexOf(' ')) + " leaves out: " + row);
        }
        due(code.chars().allMatch(c -> c < 127), "a sign beyond 126");
        due(code.split("\\bclass\\b", -1).length - 1 <= 12, "rule 11: more than twelve classes");
        checkMethodLengths(source);
    }

    private static void checkMethodLengths(String source) {
        String[] rows = source.split("\n");
        int start = -1;
        String indent = "";
        for (int row = 0; row < rows.length; row++) {
            Matcher head = Pattern.compile("^((?:    ){1,2})[A-Za-z].*\\).*\\{$").matcher(rows[row]);
            if (start < 0 && head.find() && !rows[row].contains("class ")) {
                start = row;
                indent = head.group(1);
            } else if (start >= 0 && rows[row].equals(indent + "}")) {
                due(row - start <= 60, "a long method: " + rows[start]);
                start = -1;
            }
        }
    }

    /** The heads of the face, word by word as the document has them, each group behind its "---- " words. */
    private static void checkOrder(String document, String source) {
        String face = document.substring(document.indexOf("```java"), document.indexOf("## Terms"));
        List<String> want = new ArrayList<>();
        for (String head : heads(face, ";")) {
            Matcher group = Pattern.compile("Ahead of the calls `" + nameIn(head) + "`.* says: (---- .*)\\.\n")
                    .matcher(document);
            if (group.find()) {
                want.add(group.group(1));
            }
            want.add(head);
        }
        due(want.size() == 31, "the document's face was not found, but " + want);
        List<String> found = heads(source, " \\{");
        found.removeAll(List.of("---- helpers of the face", "public final class TesseraHall"));
        due(found.equals(want), "the source has the face as " + found);
    }

    /** The public heads in a text, and the rows of comments that begin with "---- ", in their order. */
    private static List<String> heads(String text, String end) {
        List<String> heads = new ArrayList<>();
        Matcher head = Pattern.compile("// (---- .*)|(?m:^) *(public [^;{=]*?)" + end).matcher(text);
        while (head.find()) {
            heads.add(head.group(1) != null ? head.group(1) : head.group(2).replaceAll("\\s+", " "));
        }
        return heads;
    }

    private static String nameIn(String head) {
        return head.replaceAll("\\(.*", "").replaceAll(".* ", "");
    }

    /** Rules 8 and 11: what calls itself is private and static, and no other chain of calls is deeper than eight. */
    private static void checkCalls(String source) {
        TreeMap<String, String> bodies = new TreeMap<>();
        String head = "((?:[A-Za-z\\[\\]]+ )*(\\w+)\\([^;{}=]*\\)[^;{}=]*)";
        Matcher method = Pattern.compile("(?ms)^(    |        )" + head + "\\{\n(.*?)^\\1\\}$")
                .matcher(source.replaceAll("(?m)^ *(/?\\*|//).*$", ""));
        while (method.find()) {
            String name = method.group(3);
            due(bodies.put(name, method.group(4)) == null, "two methods are named " + name);
            boolean isOwnCaller = Pattern.compile("\\b" + name + "\\(").matcher(method.group(4)).find();
            due(!isOwnCaller || method.group(2).startsWith("private static "), "rule 8: it calls itself: " + name);
        }
        due(bodies.size() > 60, "only these methods were found: " + bodies.keySet());
        for (String name : bodies.keySet()) {
            int deep = depth(name, bodies, 0);
            due(deep <= 8, "rule 11: calls go " + deep + " deep below " + name);
        }
    }

    private static int depth(String name, TreeMap<String, String> bodies, int above) {
        int deepest = 1;
        for (String other : bodies.keySet()) {
            boolean isCalled = Pattern.compile("(?<!\\w)" + other + "\\(").matcher(bodies.get(name)).find();
            if (isCalled && !other.equals(name)) {
                if (above > 20) {
                    due(false, "rule 8: methods call one another: " + name + " and " + other);
                    return deepest;
                }
                deepest = Math.max(deepest, 1 + depth(other, bodies, above + 1));
            }
        }
        return deepest;
    }
}
