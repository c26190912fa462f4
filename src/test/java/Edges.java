import java.util.function.Consumer;
import java.util.function.Supplier;

/**
 * Tests of the sentences that name a boundary case, a test for each sentence. Every call that may be
 * refused is made on a new object, so that no object gets more than the 512 calls of the document.
 */
final class Edges {
    interface Call {
        int on(ChipRing x);
    }

    interface CallWith {
        int on(ChipRing x, int v);
    }

    private static final int TEXT_BYTES = 120;

    private final Check check;
    private int sentences;

    Edges(String name) {
        check = new Check(name);
    }

    /** The words are those of the document, or a short form; 0 stands for its description, which has no number. */
    void sentence(int promise, String words, Consumer<Check> test) {
        int before = check.made();
        check.under(promise + ": " + words);
        test.accept(check);
        check.due("answers that were looked at, more than 0", check.made() > before ? 1 : 0, 1);
        sentences++;
    }

    void end() {
        check.under(sentences + " sentences");
        check.end();
    }

    /** The call takes the numbers from least to most, and no other. */
    static void takes(Check check, String call, Supplier<ChipRing> board, CallWith made, int least, int most) {
        takesSome(check, call, board, made, least);
        for (int v = Math.max(least + 1, most - 16); v <= most; v++) {
            takesSome(check, call, board, made, v);
        }
        for (int v : new int[] {least - 1, most + 1, Integer.MIN_VALUE, Integer.MAX_VALUE}) {
            refuses(check, called(call, v), board, x -> made.on(x, v), ChipRing.BAD);
        }
    }

    private static void takesSome(Check check, String call, Supplier<ChipRing> board, CallWith made, int v) {
        ChipRing x = board.get();
        int before = errors(x);
        check.due(called(call, v) + " is an error", isError(made.on(x, v)) ? 1 : 0, 0);
        check.due("errors counted by " + called(call, v), errors(x) - before, 0);
    }

    /** In the name of a call, # stands for the number that is tried. */
    private static String called(String call, int v) {
        return call.replace("#", Integer.toString(v));
    }

    static boolean isError(int answer) {
        return answer == ChipRing.BAD || answer == ChipRing.NO || answer == ChipRing.FULL;
    }

    static int errors(ChipRing x) {
        return x.told(0) + x.told(1) + x.told(2);
    }

    /** The call answers an error, which is counted once; nothing else changes, neither now nor in what is kept. */
    static void refuses(Check check, String call, Supplier<ChipRing> board, Call made, int error) {
        ChipRing x = board.get();
        check.refused(x, call, () -> made.on(x), error);
        if (error == ChipRing.BAD) {
            sameAsAfter(check, call, board.get(), made, board.get(), y -> y.told(5));
        } else if (error == ChipRing.FULL) {
            sameAsAfter(check, call, filled(board.get()), made, filled(board.get()), y -> y.type(' '));
        }
    }

    private static ChipRing filled(ChipRing x) {
        for (int bytes = x.told(3); bytes < TEXT_BYTES; bytes++) {
            x.type(' ');
        }
        return x;
    }

    /** Two equal objects stay equal, text and kept states too, if one is refused one call and the other another. */
    private static void sameAsAfter(Check check, String call, ChipRing x, Call made, ChipRing y, Call other) {
        made.on(x);
        other.on(y);
        check.due("digest after " + call, x.digest(), y.digest());
        for (int i = 0; i < 6; i++) {
            check.due("back() after " + call, x.back(), y.back());
            check.due("digest after " + call + " and back()", x.digest(), y.digest());
        }
        check.due("does() after " + call, x.does(), y.does());
        check.due("digest after " + call + " and does()", x.digest(), y.digest());
    }
}
