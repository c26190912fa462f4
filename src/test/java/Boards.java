import java.util.ArrayList;
import java.util.List;

/** Ways through the port, and boards that several tests use. */
final class Boards {
    /** The TMS bits that lead from reset to each state. */
    private static final String[] WAY = {
        "", "0", "01", "010", "0100", "0101", "01010", "010101",
        "01011", "011", "0110", "01100", "01101", "011010", "0110101", "011011"
    };

    private Boards() {
    }

    /** From reset, with TDI 0. */
    static void toState(ChipRing x, int state) {
        for (char c : WAY[state].toCharArray()) {
            x.clock(c - '0', 0);
        }
    }

    static void type(ChipRing x, String text) {
        for (char c : text.toCharArray()) {
            x.type(c);
        }
    }

    /** Empties the buffer, types a text and does it. */
    static int does(ChipRing x, String text) {
        x.clear();
        type(x, text);
        return x.does();
    }

    /** From any state through reset to idle. */
    static void toIdle(ChipRing x) {
        x.clocks(6, 31, 0);
    }

    /** From idle to shift IR. */
    static void toShiftIr(ChipRing x) {
        x.clocks(4, 3, 0);
    }

    /** From idle to shift DR. */
    static void toShiftDr(ChipRing x) {
        x.clocks(3, 1, 0);
    }

    /** In a shift state: shifts n bits in, leaves by the update state to idle, gives the bits that left. */
    static long shiftAndUpdate(ChipRing x, int n, long bits) {
        long out = 0;
        for (int i = 0; i < n; i++) {
            out |= (long) x.clock(i == n - 1 ? 1 : 0, (int) (bits >> i & 1)) << i;
        }
        x.clocks(2, 1, 0);
        return out;
    }

    /** From idle to idle. */
    static long loadInstructions(ChipRing x, long bits) {
        toShiftIr(x);
        return shiftAndUpdate(x, x.port(2), bits);
    }

    /** From idle to idle. */
    static long scanData(ChipRing x, long bits) {
        toShiftDr(x);
        return shiftAndUpdate(x, x.port(1), bits);
    }

    /** Two chips of 2 bits: outputs of chip 0 at nets 0 and 1, inputs of chip 1 there; idle. */
    static ChipRing pair() {
        ChipRing x = new ChipRing();
        x.chip(2, 90);
        x.chip(2, 256);
        x.cell(0, 1, 0);
        x.cell(0, 1, 1);
        x.cell(1, 0, 0);
        x.cell(1, 0, 1);
        toIdle(x);
        return x;
    }

    /** The pair with EXTEST in both chips. */
    static ChipRing pairInExtest() {
        ChipRing x = pair();
        loadInstructions(x, 0);
        return x;
    }

    /** The values that the digest is made of, in the document's order. */
    static long[] everything(ChipRing x) {
        List<Integer> v = new ArrayList<>();
        for (int what = 0; what < 5; what++) v.add(x.told(what));
        for (int what = 0; what < 5; what++) v.add(x.count(what));
        for (int what = 0; what < 5; what++) v.add(x.port(what));
        for (int c = 0; c < x.count(0); c++) {
            for (int what = 0; what < 8; what++) v.add(x.of(c, what));
            for (int k = 0; k < x.of(c, 2); k++) {
                for (int what = 0; what < 3; what++) v.add(x.about(c, k, what));
            }
        }
        for (int i = 0; i < x.count(2); i++) v.add(x.fault(i));
        v.add(x.patterns(0));
        v.add(x.seen(0));
        v.add(x.seen(1));
        v.add(x.suspects(0, ChipRing.NONE));
        v.add(x.suspects(1, ChipRing.NONE));
        return v.stream().mapToLong(Integer::longValue).toArray();
    }

    static long digestOf(long[] values) {
        long h = 2694;
        for (long v : values) h = 31 * h + v;
        return h;
    }
}
