import java.io.IOException;
import java.lang.reflect.Method;
import java.lang.reflect.Modifier;
import java.nio.file.Files;
import java.nio.file.Path;
import java.util.Arrays;
import java.util.Map;
import java.util.Set;
import java.util.TreeMap;
import java.util.TreeSet;
import java.util.regex.Matcher;
import java.util.regex.Pattern;
import java.util.stream.Collectors;
import java.util.stream.Stream;

/** Holds README.md to its words: its calls, its tables, and the names of the tests. */
public final class ReadmeTest {
    private static final int MOST_CALLS = 512;
    private static final Pattern BLOCK = Pattern.compile("(?ms)^```java\n(.*?)^```$");
    private static final Pattern NEW_OBJECT = Pattern.compile("ChipRing x = new ChipRing\\(\\);");
    private static final Pattern TYPING =
        Pattern.compile("for \\(char c : \"([^\"]*)\"\\.toCharArray\\(\\)\\) x\\.type\\(c\\);");
    private static final Pattern CALL = Pattern.compile("x\\.(\\w+)\\((.*)\\); +// (-?\\d+): (.+)");
    private static final Pattern METHOD_ROW = Pattern.compile("(?m)^\\| `(\\w+)\\(([\\w, ]*)\\)` \\|[^|]*\\|([^|]*)\\|$");
    private static final Pattern CONSTANT = Pattern.compile("\\b(NONE|BAD|NO|FULL)\\b");
    private static final Map<String, Integer> CONSTANTS =
        Map.of("NONE", ChipRing.NONE, "BAD", ChipRing.BAD, "NO", ChipRing.NO, "FULL", ChipRing.FULL);

    private final Check check = new Check("ReadmeTest");
    private final Map<String, Method> methods = new TreeMap<>();
    private final Set<String> shown = new TreeSet<>();
    private final String page;
    private ChipRing x;
    private int calls;

    private ReadmeTest() throws IOException {
        page = Files.readString(Path.of("README.md")).replace("\r\n", "\n");
        for (Method m : ChipRing.class.getDeclaredMethods()) {
            if (Modifier.isPublic(m.getModifiers())) {
                methods.put(m.getName(), m);
            }
        }
    }

    public static void main(String[] args) throws Exception {
        ReadmeTest test = new ReadmeTest();
        test.blocks();
        test.noCallOutsideBlocks();
        test.methodRows();
        test.constantRows();
        test.testNames();
        test.check.end();
    }

    private void blocks() throws ReflectiveOperationException {
        Matcher block = BLOCK.matcher(page);
        while (block.find()) {
            for (String line : block.group(1).split("\n")) {
                line(line.trim());
            }
        }
        holds("every method is shown in a block: " + shown, shown.equals(methods.keySet()));
    }

    private void line(String line) throws ReflectiveOperationException {
        Matcher typing = TYPING.matcher(line);
        Matcher call = CALL.matcher(line);
        if (NEW_OBJECT.matcher(line).matches()) {
            x = new ChipRing();
            calls = 0;
        } else if (typing.matches()) {
            for (char c : typing.group(1).toCharArray()) {
                call(line, "type", Integer.toString(c));
            }
        } else if (call.matches()) {
            long answer = Long.parseLong(call.group(3));
            check.due(line, call(line, call.group(1), call.group(2)), answer);
            sameConstant(line, answer, call.group(4));
        } else {
            holds("a line of a block is understood: " + line, line.isEmpty());
        }
    }

    private long call(String line, String name, String arguments) throws ReflectiveOperationException {
        holds("there is a method for: " + line, methods.containsKey(name));
        shown.add(name);
        calls++;
        holds("an object is used for at most 512 calls: " + line, calls <= MOST_CALLS);
        Object[] values = arguments.isEmpty() ? new Object[0]
            : Arrays.stream(arguments.split(", *")).map(ReadmeTest::argument).toArray();
        return ((Number) methods.get(name).invoke(x, values)).longValue();
    }

    private static Object argument(String word) {
        if (word.startsWith("ChipRing.")) {
            return CONSTANTS.get(word.substring("ChipRing.".length()));
        }
        return word.startsWith("'") ? word.charAt(1) : Integer.parseInt(word);
    }

    /** An answer that is a constant is told by its name, and no other answer is. */
    private void sameConstant(String line, long answer, String words) {
        boolean isConstant = answer <= ChipRing.NONE && answer >= ChipRing.FULL;
        Matcher named = CONSTANT.matcher(words);
        boolean begins = named.lookingAt();
        holds("the words begin with the constant's name: " + line, begins == isConstant);
        if (begins) {
            check.due("the constant named in: " + line, CONSTANTS.get(named.group()), answer);
        }
    }

    private void noCallOutsideBlocks() {
        holds("no call stands outside the blocks", !BLOCK.matcher(page).replaceAll("").contains("x."));
    }

    /** Each method has one row, with its parameters and the errors that it can answer. */
    private void methodRows() throws ReflectiveOperationException {
        Set<String> rows = new TreeSet<>();
        Matcher row = METHOD_ROW.matcher(page);
        while (row.find()) {
            String name = row.group(1);
            boolean known = rows.add(name) && methods.containsKey(name);
            holds("a row for one method: " + row.group(), known);
            if (known) {
                int parameters = row.group(2).isEmpty() ? 0 : row.group(2).split(",").length;
                check.due("parameters of " + name, parameters, methods.get(name).getParameterCount());
                errorsOf(name, row.group(3));
            }
        }
        holds("every method has a row: " + rows, rows.equals(methods.keySet()));
    }

    private void errorsOf(String name, String errors) throws ReflectiveOperationException {
        Method m = methods.get(name);
        Set<Long> found = new TreeSet<>();
        for (int v : new int[] {Integer.MIN_VALUE, 0, 1, 2}) {
            for (ChipRing board : new ChipRing[] {new ChipRing(), fullBoard()}) {
                Object[] values = new Object[m.getParameterCount()];
                Arrays.fill(values, v);
                if (name.equals("shorts") && v == 0) {
                    values[1] = 1;
                }
                found.add(((Number) m.invoke(board, values)).longValue());
            }
        }
        for (String error : new String[] {"BAD", "NO", "FULL"}) {
            boolean stands = errors.matches(".*\\b" + error + "\\b.*");
            holds(name + " can answer " + error, stands == found.contains((long) CONSTANTS.get(error)));
        }
    }

    /** There is no room for a chip, a cell, a fault or a byte. */
    private static ChipRing fullBoard() {
        ChipRing board = new ChipRing();
        for (int c = 0; c < 4; c++) {
            board.chip(2, c);
            for (int k = 0; k < 6; k++) {
                board.cell(c, k % 2, k);
            }
            board.sticks(c, 0);
        }
        Boards.type(board, " ".repeat(120));
        return board;
    }

    private void constantRows() {
        for (String name : new String[] {"BAD", "NO", "FULL"}) {
            holds("a row for " + name, page.contains("\n| " + CONSTANTS.get(name) + " | `" + name + "` |"));
        }
        holds("a row for NONE", page.contains("\n| " + ChipRing.NONE + " (`NONE`) |"));
    }

    private void testNames() throws IOException {
        Set<String> files;
        try (Stream<Path> all = Files.list(Path.of("src/test/java"))) {
            files = all.map(p -> p.getFileName().toString()).filter(n -> n.endsWith("Test.java"))
                .map(n -> n.replace(".java", "")).collect(Collectors.toCollection(TreeSet::new));
        }
        Set<String> named = new TreeSet<>();
        Matcher name = Pattern.compile("\\b[A-Z]\\w*Test\\b").matcher(page);
        while (name.find()) {
            named.add(name.group());
        }
        holds("the tests named, " + named + ", are those that there are, " + files, named.equals(files));
    }

    private void holds(String what, boolean is) {
        check.due(what, is ? 1 : 0, 1);
    }
}
