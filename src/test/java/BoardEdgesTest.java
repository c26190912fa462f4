import java.util.function.Supplier;

/** The boundary cases of promises 1 to 7: a new object, chip, cell, opens, sticks, shorts, heals. */
public final class BoardEdgesTest {
    public static void main(String[] args) {
        Edges edges = new Edges("BoardEdgesTest");
        edges.sentence(1, "a board without chips and faults", BoardEdgesTest::newBoard);
        edges.sentence(1, "with the port in state 0 and an empty text buffer", BoardEdgesTest::newPortAndText);
        edges.sentence(1, "no state is kept, and all counts are 0", BoardEdgesTest::newCounts);

        edges.sentence(2, "l: 2 to 4; BAD if l is out of range", BoardEdgesTest::instructionBits);
        edges.sentence(2, "d: 0 to 255, or 256 for none; BAD if d is out of range", BoardEdgesTest::identity);
        edges.sentence(2, "256 for none", BoardEdgesTest::noIdentity);
        edges.sentence(2, "Returns its number", BoardEdgesTest::chipNumbers);
        edges.sentence(2, "FULL if there are 4 chips", BoardEdgesTest::fourChips);
        edges.sentence(2, "If several apply, the first: BAD, then FULL", BoardEdgesTest::badChipWhenFull);
        edges.sentence(2, "The initial instruction of a chip", BoardEdgesTest::initialInstruction);
        edges.sentence(2, "both 0 in a new chip; a latch, 0 at first", BoardEdgesTest::newChipIsEmpty);

        edges.sentence(3, "BAD if there is no such chip", BoardEdgesTest::cellOfNoChip);
        edges.sentence(3, "BAD if k is out of range", BoardEdgesTest::cellKind);
        edges.sentence(3, "BAD if n is out of range", BoardEdgesTest::cellNet);
        edges.sentence(3, "Returns the number of the cell", BoardEdgesTest::cellNumbers);
        edges.sentence(3, "FULL if the chip has 6 cells", BoardEdgesTest::sixCells);
        edges.sentence(3, "If several apply, the first: BAD, then FULL", BoardEdgesTest::badCellWhenFull);
        edges.sentence(3, "a latch (a bit, 0 at first)", BoardEdgesTest::newLatch);
        edges.sentence(3, "A cell is an input or an output, also where another was", BoardEdgesTest::cellInThePlaceOfAnother);

        edges.sentence(4, "BAD if there is no such chip", BoardEdgesTest::openOfNoChip);
        edges.sentence(4, "BAD if there is no such cell", BoardEdgesTest::openOfNoCell);
        edges.sentence(4, "Returns the number of faults then", BoardEdgesTest::openCount);
        edges.sentence(4, "FULL if there are 4 faults", BoardEdgesTest::openWhenFull);
        edges.sentence(4, "If several apply, the first: BAD, then FULL", BoardEdgesTest::badOpenWhenFull);
        edges.sentence(4, "the same one can be added twice", BoardEdgesTest::openTwice);

        edges.sentence(5, "BAD if n is out of range", BoardEdgesTest::stuckNet);
        edges.sentence(5, "BAD if v is out of range", BoardEdgesTest::stuckValue);
        edges.sentence(5, "Returns the number of faults then", BoardEdgesTest::stuckCount);
        edges.sentence(5, "FULL if there are 4 faults", BoardEdgesTest::stuckWhenFull);
        edges.sentence(5, "If several apply, the first: BAD, then FULL", BoardEdgesTest::badStuckWhenFull);
        edges.sentence(5, "the same one can be added twice", BoardEdgesTest::stuckTwice);

        edges.sentence(6, "BAD if an argument is out of range", BoardEdgesTest::shortArguments);
        edges.sentence(6, "BAD if a equals b", BoardEdgesTest::shortToItself);
        edges.sentence(6, "two nets a and b, a less than b", BoardEdgesTest::smallerNetFirst);
        edges.sentence(6, "Returns the number of faults then", BoardEdgesTest::shortCount);
        edges.sentence(6, "FULL if there are 4 faults", BoardEdgesTest::shortWhenFull);
        edges.sentence(6, "If several apply, the first: BAD, then FULL", BoardEdgesTest::badShortWhenFull);
        edges.sentence(6, "the same one can be added twice", BoardEdgesTest::shortTwice);

        edges.sentence(7, "Removes all faults. Returns how many there were", BoardEdgesTest::healsFromNoneToFour);
        edges.sentence(7, "there is room again when the faults are removed", BoardEdgesTest::roomAfterHeals);
        edges.end();
    }

    // ---- boards

    private static ChipRing chips(int n) {
        ChipRing x = new ChipRing();
        for (int c = 0; c < n; c++) {
            x.chip(2, 256);
        }
        return x;
    }

    /** Chip 0 has no cell, chip 1 has n cells. */
    private static ChipRing cells(int n) {
        ChipRing x = chips(2);
        for (int k = 0; k < n; k++) {
            x.cell(1, k % 2, k);
        }
        return x;
    }

    /** Two chips with two cells each, and n faults, which are not all of one kind. */
    private static ChipRing faults(int n) {
        ChipRing x = chips(2);
        for (int k = 0; k < 2; k++) {
            x.cell(0, 1, k);
            x.cell(1, 0, k);
        }
        int[] way = {0, 1, 2, 0};
        for (int i = 0; i < n; i++) {
            if (way[i] == 0) {
                x.sticks(i, 1);
            } else if (way[i] == 1) {
                x.opens(1, i);
            } else {
                x.shorts(i, 0, 1);
            }
        }
        return x;
    }

    // ---- promise 1

    private static void newBoard(Check check) {
        ChipRing x = new ChipRing();
        check.due("count(0)", x.count(0), 0);
        check.due("count(1)", x.count(1), 0);
        check.due("count(2)", x.count(2), 0);
        check.due("count(3)", x.count(3), 0);
        check.due("count(4)", x.count(4), 0);
        check.due("fault(0)", x.fault(0), ChipRing.NONE);
        check.due("heals()", new ChipRing().heals(), 0);
        Edges.refuses(check, "of(0, 0)", ChipRing::new, y -> y.of(0, 0), ChipRing.BAD);
    }

    private static void newPortAndText(Check check) {
        ChipRing x = new ChipRing();
        check.due("port(0)", x.port(0), 0);
        check.due("told(3)", x.told(3), 0);
        check.due("does()", x.does(), -10);
        check.due("clear()", x.clear(), 0);
        check.due("the first byte", x.type('h'), 1);
    }

    private static void newCounts(Check check) {
        ChipRing x = new ChipRing();
        for (int what = 0; what < 5; what++) {
            check.due("told(" + what + ")", x.told(what), 0);
        }
        Edges.refuses(check, "back()", ChipRing::new, ChipRing::back, ChipRing.NO);
    }

    // ---- promise 2

    private static void instructionBits(Check check) {
        Edges.takes(check, "chip(#, 0)", ChipRing::new, (x, l) -> x.chip(l, 0), 2, 4);
        Edges.takes(check, "chip(#, 256)", ChipRing::new, (x, l) -> x.chip(l, 256), 2, 4);
        for (int l = 2; l <= 4; l++) {
            ChipRing x = new ChipRing();
            x.chip(l, 0);
            check.due("of(0, 0) for " + l, x.of(0, 0), l);
            check.due("port(2) for " + l, x.port(2), l);
        }
    }

    private static void identity(Check check) {
        Edges.takes(check, "chip(2, #)", ChipRing::new, (x, d) -> x.chip(2, d), 0, 256);
        for (int d : new int[] {0, 1, 254, 255, 256}) {
            ChipRing x = new ChipRing();
            x.chip(4, d);
            check.due("of(0, 1) for " + d, x.of(0, 1), d);
        }
    }

    private static void noIdentity(Check check) {
        for (int d : new int[] {0, 255, 256}) {
            ChipRing x = new ChipRing();
            x.chip(3, d);
            check.due("of(0, 3) for " + d, x.of(0, 3), d == 256 ? 7 : 2);
            check.due("of(0, 4) for " + d, x.of(0, 4), d == 256 ? 1 : 8);
            check.due("port(1) for " + d, x.port(1), d == 256 ? 1 : 8);
            x.clocks(4, 2, 0);
            check.due("what is captured for " + d, x.of(0, 6), d == 256 ? 0 : d);
        }
    }

    private static void chipNumbers(Check check) {
        ChipRing x = new ChipRing();
        for (int c = 0; c < 4; c++) {
            check.due("chip " + c, x.chip(2 + c % 3, 60 + c), c);
            check.due("count(0)", x.count(0), c + 1);
        }
        for (int c = 0; c < 4; c++) {
            check.due("of(" + c + ", 1)", x.of(c, 1), 60 + c);
        }
    }

    private static void fourChips(Check check) {
        check.due("the fourth chip", chips(3).chip(4, 255), 3);
        Edges.refuses(check, "the fifth chip", () -> chips(4), x -> x.chip(2, 0), ChipRing.FULL);
        Edges.refuses(check, "the fifth chip", () -> chips(4), x -> x.chip(4, 256), ChipRing.FULL);
        ChipRing x = chips(4);
        x.back();
        check.due("room again after back()", x.chip(2, 7), 3);
    }

    private static void badChipWhenFull(Check check) {
        Supplier<ChipRing> full = () -> chips(4);
        for (int l : new int[] {1, 5}) {
            Edges.refuses(check, "chip(" + l + ", 0)", full, x -> x.chip(l, 0), ChipRing.BAD);
        }
        for (int d : new int[] {-1, 257}) {
            Edges.refuses(check, "chip(2, " + d + ")", full, x -> x.chip(2, d), ChipRing.BAD);
        }
    }

    private static void initialInstruction(Check check) {
        for (int l = 2; l <= 4; l++) {
            ChipRing x = new ChipRing();
            x.chip(l, 0);
            x.chip(l, 255);
            x.chip(l, 256);
            check.due("bits " + l + ", identification 0", x.of(0, 3), 2);
            check.due("bits " + l + ", identification 255", x.of(1, 3), 2);
            check.due("bits " + l + ", none", x.of(2, 3), (1 << l) - 1);
        }
    }

    private static void newChipIsEmpty(Check check) {
        ChipRing x = Boards.pairInExtest();
        Boards.scanData(x, 15);
        Boards.toShiftIr(x);
        x.clocks(4, 0, 15);
        x.chip(4, 33);
        check.due("instruction register", x.of(2, 5), 0);
        check.due("data register", x.of(2, 6), 0);
        check.due("latches", x.of(2, 7), 0);
        check.due("cells", x.of(2, 2), 0);
        check.due("the register of the chip before it", x.of(1, 5), 3);
        check.due("its first bit out", x.clock(0, 0), 0);
        inThePlaceOfAnother(check);
    }

    /** The chip before it had something in all its registers, and was taken back by one call. */
    private static void inThePlaceOfAnother(Check check) {
        ChipRing x = new ChipRing();
        x.clocks(5, 0b00110, 0);
        check.due("in shift IR", x.port(0), 11);
        String latches = "k0 0;k1 0;k1 0;k1 0;k0 0;k0 0;k1 1;k1 0;";
        check.due("a chip with a cell in EXTEST", Boards.does(x, "c2 256;p0 1 1;" + latches + "k1 0;k1 0;k0 0;k0 0;"), 14);
        check.due("instruction register", x.of(0, 5), 1);
        check.due("data register", x.of(0, 6), 1);
        check.due("latches", x.of(0, 7), 1);
        x.back();
        check.due("no chip", x.count(0), 0);
        x.chip(3, 99);
        int[] due = {3, 99, 0, 2, 8, 0, 0, 0};
        for (int what = 0; what < 8; what++) {
            check.due("of(0, " + what + ")", x.of(0, what), due[what]);
        }
        x.cell(0, 0, 5);
        check.due("a cell is what it was made", x.about(0, 0, 0), 0);
        check.due("count(4)", x.count(4), 0);
    }

    private static void cellInThePlaceOfAnother(Check check) {
        ChipRing x = chips(1);
        x.cell(0, 1, 3);
        x.cell(0, 1, 5);
        x.back();
        check.due("an input where an output was", x.cell(0, 0, 6), 1);
        check.due("its kind", x.about(0, 1, 0), 0);
        check.due("its net", x.about(0, 1, 1), 6);
        check.due("nets with cells", x.count(3), 72);
        check.due("nets with outputs", x.count(4), 8);
        x.back();
        check.due("an order that is refused", Boards.does(x, "p0 1 7;p0 1 8;"), -1001);
        check.due("an input after it", x.cell(0, 0, 7), 1);
        check.due("its kind then", x.about(0, 1, 0), 0);
        check.due("nets with outputs then", x.count(4), 8);
    }

    // ---- promise 3

    private static void cellOfNoChip(Check check) {
        Edges.refuses(check, "cell(0, 0, 0) without chips", ChipRing::new, x -> x.cell(0, 0, 0), ChipRing.BAD);
        for (int n = 1; n <= 4; n++) {
            int chips = n;
            Edges.takes(check, "cell(#, 0, 0)", () -> chips(chips), (x, c) -> x.cell(c, 0, 0), 0, chips - 1);
        }
        ChipRing x = chips(2);
        x.back();
        check.due("a chip that was taken back", x.cell(1, 0, 0), ChipRing.BAD);
    }

    private static void cellKind(Check check) {
        Edges.takes(check, "cell(0, #, 0)", () -> chips(1), (x, k) -> x.cell(0, k, 0), 0, 1);
        for (int k = 0; k < 2; k++) {
            ChipRing x = chips(1);
            x.cell(0, k, 3);
            check.due("about(0, 0, 0) for " + k, x.about(0, 0, 0), k);
            check.due("count(4) for " + k, x.count(4), 8 * k);
        }
    }

    private static void cellNet(Check check) {
        Edges.takes(check, "cell(0, 0, #)", () -> chips(1), (x, n) -> x.cell(0, 0, n), 0, 7);
        Edges.takes(check, "cell(0, 1, #)", () -> chips(1), (x, n) -> x.cell(0, 1, n), 0, 7);
        for (int n = 0; n < 8; n++) {
            ChipRing x = chips(1);
            x.cell(0, 1, n);
            check.due("about(0, 0, 1) for " + n, x.about(0, 0, 1), n);
            check.due("count(3) for " + n, x.count(3), 1 << n);
            check.due("count(4) for " + n, x.count(4), 1 << n);
        }
    }

    private static void cellNumbers(Check check) {
        ChipRing x = chips(4);
        for (int k = 0; k < 6; k++) {
            for (int c = 0; c < 4; c++) {
                check.due("cell " + k + " of chip " + c, x.cell(c, 0, (c + k) % 8), k);
            }
        }
        check.due("all cells", x.count(1), 24);
        check.due("the last one's net", x.about(3, 5, 1), 0);
    }

    private static void sixCells(Check check) {
        check.due("the sixth cell", cells(5).cell(1, 1, 7), 5);
        Edges.refuses(check, "the seventh cell", () -> cells(6), x -> x.cell(1, 0, 0), ChipRing.FULL);
        Edges.refuses(check, "the seventh cell", () -> cells(6), x -> x.cell(1, 1, 7), ChipRing.FULL);
        check.due("another chip has room", cells(6).cell(0, 1, 7), 0);
        ChipRing x = cells(6);
        x.back();
        check.due("room again after back()", x.cell(1, 0, 0), 5);
        ChipRing y = cells(6);
        y.cell(1, 1, 7);
        check.due("the net of a refused cell", y.count(3), 63);
        check.due("the net of a refused output", y.count(4), 42);
    }

    private static void badCellWhenFull(Check check) {
        Supplier<ChipRing> full = () -> cells(6);
        for (int wrong : new int[] {-1, 2}) {
            Edges.refuses(check, "cell(" + wrong + ", 0, 0)", full, x -> x.cell(wrong, 0, 0), ChipRing.BAD);
            Edges.refuses(check, "cell(1, " + wrong + ", 0)", full, x -> x.cell(1, wrong, 0), ChipRing.BAD);
        }
        for (int n : new int[] {-1, 8}) {
            Edges.refuses(check, "cell(1, 0, " + n + ")", full, x -> x.cell(1, 0, n), ChipRing.BAD);
        }
    }

    private static void newLatch(Check check) {
        ChipRing x = Boards.pairInExtest();
        Boards.scanData(x, 15);
        check.due("latches before", x.of(0, 7), 3);
        x.cell(0, 1, 5);
        check.due("about(0, 2, 2)", x.about(0, 2, 2), 0);
        check.due("latches then", x.of(0, 7), 3);
        check.due("the new output drives its 0", x.port(4), 255 - 32);
    }

    // ---- promise 4

    private static void openOfNoChip(Check check) {
        Edges.refuses(check, "opens(0, 0) without chips", ChipRing::new, x -> x.opens(0, 0), ChipRing.BAD);
        Edges.takes(check, "opens(#, 0)", () -> faults(0), (x, c) -> x.opens(c, 0), 0, 1);
        Supplier<ChipRing> four = () -> {
            ChipRing x = chips(4);
            for (int c = 0; c < 4; c++) {
                x.cell(c, 0, c);
            }
            return x;
        };
        Edges.takes(check, "opens(#, 0) of four", four, (x, c) -> x.opens(c, 0), 0, 3);
    }

    private static void openOfNoCell(Check check) {
        Edges.refuses(check, "opens(0, 0) of a chip without cells", () -> cells(3), x -> x.opens(0, 0), ChipRing.BAD);
        for (int n = 1; n <= 6; n++) {
            int cells = n;
            Edges.takes(check, "opens(1, #)", () -> cells(cells), (x, k) -> x.opens(1, k), 0, cells - 1);
        }
        ChipRing x = cells(2);
        x.back();
        check.due("a cell that was taken back", x.opens(1, 1), ChipRing.BAD);
    }

    private static void openCount(Check check) {
        ChipRing x = cells(6);
        int[] cells = {5, 0, 3, 2};
        for (int i = 0; i < 4; i++) {
            check.due("fault " + i, x.opens(1, cells[i]), i + 1);
            check.due("fault(" + i + ")", x.fault(i), 1010 + cells[i]);
            check.due("count(2)", x.count(2), i + 1);
        }
        ChipRing y = new ChipRing();
        for (int c = 0; c < 4; c++) {
            y.chip(2, 0);
        }
        for (int k = 0; k < 6; k++) {
            y.cell(3, 0, 0);
        }
        y.opens(3, 5);
        check.due("the code of the last cell", y.fault(0), 1035);
    }

    private static void openWhenFull(Check check) {
        check.due("the fourth fault", faults(3).opens(0, 1), 4);
        Edges.refuses(check, "the fifth fault", () -> faults(4), x -> x.opens(0, 0), ChipRing.FULL);
        Edges.refuses(check, "the fifth fault, there already", () -> faults(4), x -> x.opens(1, 1), ChipRing.FULL);
        ChipRing x = faults(4);
        x.back();
        check.due("room again after back()", x.opens(0, 0), 4);
    }

    private static void badOpenWhenFull(Check check) {
        for (int wrong : new int[] {-1, 2}) {
            Edges.refuses(check, "opens(" + wrong + ", 0)", () -> faults(4), x -> x.opens(wrong, 0), ChipRing.BAD);
            Edges.refuses(check, "opens(0, " + wrong + ")", () -> faults(4), x -> x.opens(0, wrong), ChipRing.BAD);
        }
    }

    private static void openTwice(Check check) {
        ChipRing x = faults(0);
        check.due("once", x.opens(0, 1), 1);
        check.due("twice", x.opens(0, 1), 2);
        check.due("fault(0)", x.fault(0), 1001);
        check.due("fault(1)", x.fault(1), 1001);
        check.due("three times", x.opens(0, 1), 3);
        check.due("four times", x.opens(0, 1), 4);
        check.due("five times", x.opens(0, 1), ChipRing.FULL);
        check.due("heals()", x.heals(), 4);
    }

    // ---- promise 5

    private static void stuckNet(Check check) {
        Edges.takes(check, "sticks(#, 0)", ChipRing::new, (x, n) -> x.sticks(n, 0), 0, 7);
        Edges.takes(check, "sticks(#, 1)", () -> faults(0), (x, n) -> x.sticks(n, 1), 0, 7);
        for (int n = 0; n < 8; n++) {
            ChipRing x = new ChipRing();
            x.sticks(n, 0);
            check.due("fault(0) for net " + n, x.fault(0), 2000 + 10 * n);
            check.due("port(4) for net " + n, x.port(4), 255 - (1 << n));
        }
    }

    private static void stuckValue(Check check) {
        Edges.takes(check, "sticks(0, #)", ChipRing::new, (x, v) -> x.sticks(0, v), 0, 1);
        for (int v = 0; v < 2; v++) {
            ChipRing x = new ChipRing();
            x.sticks(7, v);
            check.due("fault(0) for value " + v, x.fault(0), 2070 + v);
            check.due("port(4) for value " + v, x.port(4), 127 + 128 * v);
        }
    }

    private static void stuckCount(Check check) {
        ChipRing x = new ChipRing();
        for (int i = 0; i < 4; i++) {
            check.due("fault " + i, x.sticks(7 - i, i % 2), i + 1);
            check.due("fault(" + i + ")", x.fault(i), 2000 + 10 * (7 - i) + i % 2);
        }
    }

    private static void stuckWhenFull(Check check) {
        check.due("the fourth fault", faults(3).sticks(0, 1), 4);
        Edges.refuses(check, "the fifth fault", () -> faults(4), x -> x.sticks(5, 0), ChipRing.FULL);
        Edges.refuses(check, "the fifth fault, there already", () -> faults(4), x -> x.sticks(0, 1), ChipRing.FULL);
        ChipRing x = faults(4);
        x.back();
        check.due("room again after back()", x.sticks(0, 0), 4);
    }

    private static void badStuckWhenFull(Check check) {
        for (int n : new int[] {-1, 8}) {
            Edges.refuses(check, "sticks(" + n + ", 0)", () -> faults(4), x -> x.sticks(n, 0), ChipRing.BAD);
        }
        for (int v : new int[] {-1, 2}) {
            Edges.refuses(check, "sticks(0, " + v + ")", () -> faults(4), x -> x.sticks(0, v), ChipRing.BAD);
        }
    }

    private static void stuckTwice(Check check) {
        ChipRing x = new ChipRing();
        check.due("once", x.sticks(3, 0), 1);
        check.due("twice", x.sticks(3, 0), 2);
        check.due("fault(0)", x.fault(0), 2030);
        check.due("fault(1)", x.fault(1), 2030);
        check.due("three times", x.sticks(3, 0), 3);
        check.due("four times", x.sticks(3, 0), 4);
        check.due("five times", x.sticks(3, 0), ChipRing.FULL);
    }

    // ---- promise 6

    private static void shortArguments(Check check) {
        Edges.takes(check, "shorts(#, 7, 0) below 7", ChipRing::new, (x, a) -> x.shorts(a, a == 7 ? 6 : 7, 0), 0, 7);
        Edges.takes(check, "shorts(0, #, 0) above 0", ChipRing::new, (x, b) -> x.shorts(b == 0 ? 1 : 0, b, 0), 0, 7);
        Edges.takes(check, "shorts(0, 1, #)", ChipRing::new, (x, k) -> x.shorts(0, 1, k), 0, 1);
        Edges.takes(check, "shorts(7, 0, #)", ChipRing::new, (x, k) -> x.shorts(7, 0, k), 0, 1);
    }

    private static void shortToItself(Check check) {
        for (int n = -1; n <= 8; n++) {
            int net = n;
            for (int k = 0; k < 2; k++) {
                int kind = k;
                String call = "shorts(" + n + ", " + n + ", " + k + ")";
                Edges.refuses(check, call, ChipRing::new, x -> x.shorts(net, net, kind), ChipRing.BAD);
            }
        }
    }

    private static void smallerNetFirst(Check check) {
        for (int a = 0; a < 8; a++) {
            for (int b = 0; b < 8; b++) {
                if (a != b) {
                    ChipRing x = new ChipRing();
                    check.due("AND of " + a + " and " + b, x.shorts(a, b, 0), 1);
                    check.due("OR of " + a + " and " + b, x.shorts(a, b, 1), 2);
                    int nets = 10 * Math.min(a, b) + Math.max(a, b);
                    check.due("fault(0)", x.fault(0), 3000 + nets);
                    check.due("fault(1)", x.fault(1), 4000 + nets);
                }
            }
        }
    }

    private static void shortCount(Check check) {
        ChipRing x = new ChipRing();
        for (int i = 0; i < 4; i++) {
            check.due("fault " + i, x.shorts(i, 7 - i, i % 2), i + 1);
            check.due("count(2)", x.count(2), i + 1);
        }
    }

    private static void shortWhenFull(Check check) {
        check.due("the fourth fault", faults(3).shorts(6, 7, 1), 4);
        Edges.refuses(check, "the fifth fault", () -> faults(4), x -> x.shorts(0, 7, 0), ChipRing.FULL);
        Edges.refuses(check, "the fifth fault, there already", () -> faults(4), x -> x.shorts(2, 0, 1), ChipRing.FULL);
        ChipRing x = faults(4);
        x.back();
        check.due("room again after back()", x.shorts(0, 1, 0), 4);
    }

    private static void badShortWhenFull(Check check) {
        for (int n : new int[] {-1, 8}) {
            Edges.refuses(check, "shorts(" + n + ", 0, 0)", () -> faults(4), x -> x.shorts(n, 0, 0), ChipRing.BAD);
            Edges.refuses(check, "shorts(0, " + n + ", 0)", () -> faults(4), x -> x.shorts(0, n, 0), ChipRing.BAD);
        }
        for (int k : new int[] {-1, 2}) {
            Edges.refuses(check, "shorts(0, 1, " + k + ")", () -> faults(4), x -> x.shorts(0, 1, k), ChipRing.BAD);
        }
        Edges.refuses(check, "shorts(5, 5, 0)", () -> faults(4), x -> x.shorts(5, 5, 0), ChipRing.BAD);
    }

    private static void shortTwice(Check check) {
        ChipRing x = new ChipRing();
        check.due("once", x.shorts(2, 5, 0), 1);
        check.due("twice", x.shorts(5, 2, 0), 2);
        check.due("fault(0)", x.fault(0), 3025);
        check.due("fault(1)", x.fault(1), 3025);
        check.due("three times", x.shorts(2, 5, 0), 3);
        check.due("four times", x.shorts(2, 5, 0), 4);
        check.due("five times", x.shorts(2, 5, 0), ChipRing.FULL);
    }

    // ---- promise 7

    private static void healsFromNoneToFour(Check check) {
        for (int n = 0; n <= 4; n++) {
            ChipRing x = faults(n);
            check.due("heals() of " + n, x.heals(), n);
            check.due("count(2)", x.count(2), 0);
            check.due("fault(0)", x.fault(0), ChipRing.NONE);
            check.due("heals() again", x.heals(), 0);
            check.due("seen(1)", x.seen(1), 0);
        }
    }

    private static void roomAfterHeals(Check check) {
        ChipRing x = faults(4);
        x.heals();
        for (int i = 0; i < 4; i++) {
            check.due("fault " + i, x.sticks(i, 0), i + 1);
        }
        check.due("the fifth", x.sticks(4, 0), ChipRing.FULL);
        x.back();
        check.due("after back(), faults", x.count(2), 3);
    }
}
