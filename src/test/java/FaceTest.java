import java.lang.reflect.Constructor;
import java.lang.reflect.Field;
import java.lang.reflect.Method;
import java.lang.reflect.Modifier;
import java.nio.file.Files;
import java.nio.file.Path;
import java.util.Arrays;
import java.util.Set;
import java.util.TreeSet;
import java.util.regex.Matcher;
import java.util.regex.Pattern;

/** The public face, and those rules of LANGUAGE.md that a program can see. */
public final class FaceTest {
    private static final String[] METHODS = {
        "int chip(int,int)", "int cell(int,int,int)", "int opens(int,int)", "int sticks(int,int)",
        "int shorts(int,int,int)", "int heals()", "int clock(int,int)", "int clocks(int,int,int)",
        "int port(int)", "int of(int,int)", "int about(int,int,int)", "int count(int)",
        "int fault(int)", "int patterns(int)", "int pattern(int,int,int)", "int answer(int,int,int)",
        "int seen(int)", "int suspects(int,int)", "int type(int)", "int clear()", "int does()",
        "int back()", "int told(int)", "long digest()"
    };
    private static final String FORBIDDEN =
        "throw|throws|try|catch|synchronized|assert|import|package|finally|->|::|Exact\\b|protected|volatile|native|System\\.(?!arraycopy)";

    public static void main(String[] args) throws Exception {
        Check check = new Check("FaceTest");
        constants(check);
        members(check);
        classesInside(check);
        words(check);
        noCallMakesObjects(check);
        check.end();
    }

    private static void constants(Check check) {
        check.due("NONE", ChipRing.NONE, -1);
        check.due("BAD", ChipRing.BAD, -2);
        check.due("NO", ChipRing.NO, -3);
        check.due("FULL", ChipRing.FULL, -4);
    }

    private static void members(Check check) {
        check.due("public and final", ChipRing.class.getModifiers(), Modifier.PUBLIC | Modifier.FINAL);
        Set<String> found = new TreeSet<>();
        Set<String> publicNames = new TreeSet<>();
        for (Method m : ChipRing.class.getDeclaredMethods()) {
            if (!Modifier.isPrivate(m.getModifiers())) {
                String parameters = Arrays.toString(m.getParameterTypes()).replaceAll("[\\[\\] ]", "");
                found.add(m.getReturnType() + " " + m.getName() + "(" + parameters + ")");
                publicNames.add(m.getName());
                check.due(m.getName() + " is public alone", m.getModifiers(), Modifier.PUBLIC);
            }
        }
        check.due("the methods are " + found, found.equals(new TreeSet<>(Arrays.asList(METHODS))) ? 1 : 0, 1);
        for (Method m : ChipRing.class.getDeclaredMethods()) {
            boolean hides = Modifier.isPrivate(m.getModifiers()) && publicNames.contains(m.getName());
            check.due("a private method " + m.getName(), hides ? 1 : 0, 0);
        }
        for (Constructor<?> c : ChipRing.class.getDeclaredConstructors()) {
            check.due("constructor " + c, c.getParameterCount() + c.getModifiers(), Modifier.PUBLIC);
        }
        Set<String> fields = new TreeSet<>();
        for (Field f : ChipRing.class.getDeclaredFields()) {
            if (!Modifier.isPrivate(f.getModifiers())) {
                fields.add(f.getName());
            }
            boolean mutableStatic = Modifier.isStatic(f.getModifiers()) && !Modifier.isFinal(f.getModifiers());
            check.due("a static field " + f, mutableStatic ? 1 : 0, 0);
        }
        check.due("the fields are " + fields, fields.equals(Set.of("NONE", "BAD", "NO", "FULL")) ? 1 : 0, 1);
    }

    private static void classesInside(Check check) {
        Class<?>[] inside = ChipRing.class.getDeclaredClasses();
        check.due("at most twelve classes", inside.length <= 11 ? 1 : 0, 1);
        for (Class<?> c : inside) {
            boolean hidden = !Modifier.isPublic(c.getModifiers()) && !Modifier.isProtected(c.getModifiers());
            check.due(c + " is static and hidden", hidden && Modifier.isStatic(c.getModifiers()) ? 1 : 0, 1);
            for (Method m : c.getDeclaredMethods()) {
                check.due(m + " has at most seven parameters", m.getParameterCount() <= 7 ? 1 : 0, 1);
            }
            long fields = Arrays.stream(c.getDeclaredFields()).filter(f -> !Modifier.isStatic(f.getModifiers())).count();
            check.due(c + " has at most twenty fields", fields <= 20 ? 1 : 0, 1);
        }
    }

    private static void words(Check check) throws Exception {
        String source = Files.readString(Path.of("src/main/java/ChipRing.java"));
        String code = source.replaceAll("(?s)/\\*.*?\\*/", " ").replaceAll("//[^\n]*", " ");
        Matcher m = Pattern.compile("(?<![A-Za-z])(" + FORBIDDEN + ")(?![A-Za-z])").matcher(code);
        while (m.find()) {
            check.due("the word " + m.group(), 1, 0);
        }
        check.due("all signs are plain", source.chars().allMatch(c -> c < 128) ? 1 : 0, 1);
    }

    /** The room of a run is small: all rows are made with the object. */
    private static void noCallMakesObjects(Check check) {
        var bean = java.lang.management.ManagementFactory.getThreadMXBean();
        if (!(bean instanceof com.sun.management.ThreadMXBean threads) || !threads.isThreadAllocatedMemorySupported()) {
            return;
        }
        ChipRing[] boards = new ChipRing[10];
        for (int i = 0; i < boards.length; i++) {
            boards[i] = largeBoard();
            useAll(boards[i]);
        }
        long id = Thread.currentThread().getId();
        threads.getThreadAllocatedBytes(id);
        long before = threads.getThreadAllocatedBytes(id);
        for (int i = 0; i < 400; i++) {
            useAll(boards[i % boards.length]);
        }
        long made = threads.getThreadAllocatedBytes(id) - before;
        check.due("bytes made by 400 rounds (" + made + ") are few", made < 2000 ? 1 : 0, 1);
    }

    private static ChipRing largeBoard() {
        ChipRing x = new ChipRing();
        for (int c = 0; c < 4; c++) {
            x.chip(4, c);
            for (int k = 0; k < 6; k++) {
                x.cell(c, c % 2, (c * 3 + k) % 8);
            }
        }
        x.opens(0, 0);
        x.sticks(7, 1);
        Boards.type(x, "h;h;k0 0;k1 1;u3 1;s3 4 1;o0 1;");
        return x;
    }

    private static void useAll(ChipRing x) {
        x.does();
        x.clocks(16, 0x5A3C, 0x1234);
        x.clock(0, 1);
        x.back();
        x.suspects(1, 3);
        x.answer(1, 0, 0);
        x.seen(0);
        x.digest();
        x.type(32);
    }
}
