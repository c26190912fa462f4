import java.util.function.Supplier;

/** The boundary cases of promises 11 to 14 and 24: of, about, count, fault, told. */
public final class DescribeEdgesTest {
    public static void main(String[] args) {
        Edges edges = new Edges("DescribeEdgesTest");
        edges.sentence(11, "BAD if there is no such chip", DescribeEdgesTest::ofNoChip);
        edges.sentence(11, "what: 0 to 7; BAD if what is out of range", DescribeEdgesTest::ofWhat);
        edges.sentence(11, "the values of a chip, least and most", DescribeEdgesTest::ofValues);

        edges.sentence(12, "BAD if there is no such chip", DescribeEdgesTest::aboutNoChip);
        edges.sentence(12, "BAD if there is no such cell", DescribeEdgesTest::aboutNoCell);
        edges.sentence(12, "what: 0 to 2; BAD if what is out of range", DescribeEdgesTest::aboutWhat);
        edges.sentence(12, "for an input what it sees now, for an output its latch", DescribeEdgesTest::aboutSeen);

        edges.sentence(13, "what: 0 to 4; BAD if what is out of range", DescribeEdgesTest::countWhat);
        edges.sentence(13, "the counts and sets, empty and full", DescribeEdgesTest::countValues);

        edges.sentence(14, "BAD if i is negative", DescribeEdgesTest::faultNegative);
        edges.sentence(14, "NONE if there are not so many faults", DescribeEdgesTest::faultNone);
        edges.sentence(14, "in the order in which the faults were added", DescribeEdgesTest::faultOrder);

        edges.sentence(24, "what: 0 to 4; BAD if what is out of range", DescribeEdgesTest::toldWhat);
        edges.sentence(24, "how often BAD was returned", DescribeEdgesTest::toldBad);
        edges.sentence(24, "how often NO was returned", DescribeEdgesTest::toldNo);
        edges.sentence(24, "how often FULL was returned", DescribeEdgesTest::toldFull);
        edges.sentence(24, "the bytes of the text buffer", DescribeEdgesTest::toldBytes);
        edges.sentence(24, "the states that are kept", DescribeEdgesTest::toldStates);
        edges.end();
    }

    private static ChipRing chips(int n) {
        ChipRing x = new ChipRing();
        for (int c = 0; c < n; c++) {
            x.chip(2 + c % 3, 255 + c % 2);
        }
        return x;
    }

    /** Chip 0 has n cells, inputs and outputs by turns from an input on, chip 1 has none. */
    private static ChipRing cells(int n) {
        ChipRing x = chips(2);
        for (int k = 0; k < n; k++) {
            x.cell(0, k % 2, 7 - k);
        }
        return x;
    }

    private static ChipRing faults(int n) {
        ChipRing x = cells(1);
        for (int i = 0; i < n; i++) {
            x.sticks(i, 1);
        }
        return x;
    }

    /** Four chips of four bits, with identifications and six cells each, three times eight nets. */
    private static ChipRing full(int kind) {
        ChipRing x = new ChipRing();
        for (int c = 0; c < 4; c++) {
            x.chip(4, 255);
            for (int k = 0; k < 6; k++) {
                x.cell(c, kind, (6 * c + k) % 8);
            }
        }
        return x;
    }

    // ---- promise 11

    private static void ofNoChip(Check check) {
        Edges.refuses(check, "of(0, 0) without chips", ChipRing::new, x -> x.of(0, 0), ChipRing.BAD);
        for (int n = 1; n <= 4; n++) {
            int chips = n;
            for (int w : new int[] {0, 7}) {
                int what = w;
                String call = "of(#, " + what + ")";
                Edges.takes(check, call, () -> chips(chips), (x, c) -> x.of(c, what), 0, chips - 1);
            }
        }
        ChipRing x = chips(4);
        x.back();
        check.due("a chip that was taken back", x.of(3, 0), ChipRing.BAD);
    }

    private static void ofWhat(Check check) {
        Edges.takes(check, "of(0, #)", () -> chips(1), (x, what) -> x.of(0, what), 0, 7);
        Edges.takes(check, "of(3, #)", () -> chips(4), (x, what) -> x.of(3, what), 0, 7);
    }

    private static void ofValues(Check check) {
        ChipRing x = new ChipRing();
        x.chip(2, 256);
        int[] least = {2, 256, 0, 3, 1, 0, 0, 0};
        for (int what = 0; what < 8; what++) {
            check.due("of(0, " + what + ") of the smallest", x.of(0, what), least[what]);
        }
        ChipRing y = full(1);
        Boards.toIdle(y);
        Boards.scanData(y, -1);
        Boards.loadInstructions(y, 0);
        Boards.scanData(y, -1);
        Boards.loadInstructions(y, 0xFFFF);
        int[] most = {4, 255, 6, 15, 1, 15, 63, 63};
        for (int c = 0; c < 4; c++) {
            for (int what = 0; what < 8; what++) {
                check.due("of(" + c + ", " + what + ") of the largest", y.of(c, what), most[what]);
            }
        }
        Boards.toIdle(y);
        Boards.scanData(y, -1);
        check.due("eight bits", y.of(3, 4), 8);
        check.due("all ones in them", y.of(3, 6), 255);
    }

    // ---- promise 12

    private static void aboutNoChip(Check check) {
        Edges.refuses(check, "about(0, 0, 0) without chips", ChipRing::new, x -> x.about(0, 0, 0), ChipRing.BAD);
        Edges.takes(check, "about(#, 0, 0)", () -> full(0), (x, c) -> x.about(c, 0, 0), 0, 3);
        Edges.takes(check, "about(#, 0, 2)", Boards::pair, (x, c) -> x.about(c, 0, 2), 0, 1);
    }

    private static void aboutNoCell(Check check) {
        Edges.refuses(check, "about(1, 0, 0) without cells", () -> cells(3), x -> x.about(1, 0, 0), ChipRing.BAD);
        for (int n = 1; n <= 6; n++) {
            int cells = n;
            for (int w = 0; w < 3; w++) {
                int what = w;
                String call = "about(0, #, " + what + ")";
                Edges.takes(check, call, () -> cells(cells), (x, k) -> x.about(0, k, what), 0, cells - 1);
            }
        }
        ChipRing x = cells(4);
        x.back();
        check.due("a cell that was taken back", x.about(0, 3, 0), ChipRing.BAD);
    }

    private static void aboutWhat(Check check) {
        Edges.takes(check, "about(0, 0, #) of an input", () -> cells(2), (x, what) -> x.about(0, 0, what), 0, 2);
        Edges.takes(check, "about(0, 1, #) of an output", () -> cells(2), (x, what) -> x.about(0, 1, what), 0, 2);
    }

    private static void aboutSeen(Check check) {
        ChipRing x = cells(6);
        for (int k = 0; k < 6; k++) {
            check.due("kind of cell " + k, x.about(0, k, 0), k % 2);
            check.due("net of cell " + k, x.about(0, k, 1), 7 - k);
            check.due("cell " + k + " at first", x.about(0, k, 2), k % 2 == 0 ? 1 : 0);
        }
        ChipRing y = Boards.pairInExtest();
        // an input's latch is 1, but its net is 0
        Boards.scanData(y, 0b01_11);
        check.due("an input with the latch 1 at a net of 0", y.about(1, 1, 2), 0);
        y.sticks(0, 0);
        check.due("an output with the latch 1 at a net of 0", y.about(0, 0, 2), 1);
        check.due("an input at it", y.about(1, 0, 2), 0);
    }

    // ---- promise 13

    private static void countWhat(Check check) {
        Edges.takes(check, "count(#)", ChipRing::new, ChipRing::count, 0, 4);
        Edges.takes(check, "count(#) of a board", Boards::pair, ChipRing::count, 0, 4);
    }

    private static void countValues(Check check) {
        ChipRing x = new ChipRing();
        for (int what = 0; what < 5; what++) {
            check.due("count(" + what + ") of a new object", x.count(what), 0);
        }
        ChipRing inputs = full(0);
        ChipRing outputs = full(1);
        for (int i = 0; i < 4; i++) {
            inputs.sticks(i, 0);
        }
        int[] due = {4, 24, 4, 255, 0};
        for (int what = 0; what < 5; what++) {
            check.due("count(" + what + ") of a full board", inputs.count(what), due[what]);
        }
        check.due("count(3) of outputs", outputs.count(3), 255);
        check.due("count(4) of outputs", outputs.count(4), 255);
        ChipRing y = chips(1);
        y.cell(0, 0, 0);
        y.cell(0, 1, 7);
        check.due("nets 0 and 7", y.count(3), 129);
        check.due("an output at net 7 alone", y.count(4), 128);
        y.sticks(3, 0);
        check.due("a fault makes no cell", y.count(3), 129);
    }

    // ---- promise 14

    private static void faultNegative(Check check) {
        for (int n = 0; n <= 4; n++) {
            int faults = n;
            for (int i : new int[] {-1, -2, -5, Integer.MIN_VALUE}) {
                Supplier<ChipRing> board = () -> faults(faults);
                Edges.refuses(check, "fault(" + i + ") of " + n, board, x -> x.fault(i), ChipRing.BAD);
            }
        }
    }

    private static void faultNone(Check check) {
        for (int n = 0; n <= 4; n++) {
            ChipRing x = faults(n);
            long before = x.digest();
            if (n > 0) {
                check.due("the last of " + n, x.fault(n - 1), 2000 + 10 * (n - 1) + 1);
            }
            for (int i : new int[] {n, n + 1, 5, 1000, Integer.MAX_VALUE}) {
                check.due("fault(" + i + ") of " + n, x.fault(i), ChipRing.NONE);
            }
            check.due("nothing is counted", x.digest(), before);
        }
        ChipRing x = faults(4);
        x.back();
        check.due("a fault that was taken back", x.fault(3), ChipRing.NONE);
        x.heals();
        check.due("a fault that was healed", x.fault(0), ChipRing.NONE);
    }

    private static void faultOrder(Check check) {
        ChipRing x = cells(6);
        x.shorts(7, 6, 1);
        x.opens(0, 5);
        x.sticks(7, 1);
        x.shorts(0, 1, 0);
        int[] due = {4067, 1005, 2071, 3001};
        for (int i = 0; i < 4; i++) {
            check.due("fault(" + i + ")", x.fault(i), due[i]);
        }
    }

    // ---- promise 24

    private static void toldWhat(Check check) {
        Edges.takes(check, "told(#)", ChipRing::new, ChipRing::told, 0, 4);
        Edges.takes(check, "told(#) of a board", Boards::pair, ChipRing::told, 0, 4);
        ChipRing x = new ChipRing();
        check.due("told(5)", x.told(5), ChipRing.BAD);
        check.due("told(-1)", x.told(-1), ChipRing.BAD);
        check.due("both are counted", x.told(0), 2);
    }

    private static void toldBad(Check check) {
        ChipRing x = new ChipRing();
        for (int i = 1; i <= 200; i++) {
            x.chip(5, 0);
            check.due("told(0)", x.told(0), i);
        }
        check.due("told(1)", x.told(1), 0);
        check.due("told(2)", x.told(2), 0);
    }

    private static void toldNo(Check check) {
        ChipRing x = new ChipRing();
        for (int i = 1; i <= 200; i++) {
            x.back();
            check.due("told(1)", x.told(1), i);
        }
        check.due("told(0)", x.told(0), 0);
        check.due("told(2)", x.told(2), 0);
    }

    private static void toldFull(Check check) {
        ChipRing x = chips(4);
        for (int i = 1; i <= 200; i++) {
            x.chip(2, 0);
            check.due("told(2)", x.told(2), i);
        }
        check.due("told(0)", x.told(0), 0);
        check.due("told(1)", x.told(1), 0);
    }

    private static void toldBytes(Check check) {
        ChipRing x = new ChipRing();
        for (int i = 0; i < 120; i++) {
            check.due("told(3)", x.told(3), i);
            x.type(i);
        }
        check.due("told(3) when full", x.told(3), 120);
        x.type(0);
        check.due("told(3) after one more", x.told(3), 120);
        x.clear();
        check.due("told(3) after clear()", x.told(3), 0);
    }

    private static void toldStates(Check check) {
        ChipRing x = new ChipRing();
        for (int i = 0; i < 9; i++) {
            check.due("told(4) after " + i + " acts", x.told(4), Math.min(i, 5));
            x.heals();
        }
        for (int left = 4; left >= 0; left--) {
            x.back();
            check.due("told(4) after back()", x.told(4), left);
        }
        x.back();
        check.due("told(4) after one more", x.told(4), 0);
    }
}
