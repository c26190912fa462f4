/** Promises 8 to 10: clock, clocks, port. */
public final class PortTest {
    private static final int[][] NEXT = {
        {1, 0}, {1, 2}, {3, 9}, {4, 5}, {4, 5}, {6, 8}, {6, 7}, {4, 8},
        {1, 2}, {10, 0}, {11, 12}, {11, 12}, {13, 15}, {13, 14}, {11, 15}, {1, 2}
    };

    public static void main(String[] args) {
        Check check = new Check("PortTest");
        allTransitions(check);
        withoutChips(check);
        resetState(check);
        instructionPath(check);
        identityAndBypass(check);
        latchesAndCapture(check);
        sampleDoesNotDrive(check);
        extestWithoutCells(check);
        severalClocks(check);
        netsNow(check);
        fullBoard(check);
        check.end();
    }

    private static void allTransitions(Check check) {
        for (int state = 0; state < 16; state++) {
            for (int tms = 0; tms < 2; tms++) {
                ChipRing x = new ChipRing();
                x.chip(2, 3);
                Boards.toState(x, state);
                check.due("the way to state " + state, x.port(0), state);
                int answer = x.clock(tms, 1);
                boolean shifts = state == 4 || state == 11;
                check.due("clock in state " + state, answer, shifts ? 1 : 2);
                check.due("state " + state + " with TMS " + tms, x.port(0), NEXT[state][tms]);
            }
        }
    }

    private static void withoutChips(Check check) {
        ChipRing x = new ChipRing();
        check.due("to shift DR", x.clocks(4, 2, 0), 0);
        check.due("TDO is TDI 1", x.clock(0, 1), 1);
        check.due("TDO is TDI 0", x.clock(0, 0), 0);
        check.due("many", x.clocks(16, 0, 0xA5C3), 0xA5C3);
        check.due("bits of data registers", x.port(1), 0);
        check.due("bits of instruction registers", x.port(2), 0);
    }

    private static void resetState(Check check) {
        ChipRing x = Boards.pairInExtest();
        check.due("EXTEST", x.of(0, 3), 0);
        x.clocks(3, 7, 0);
        check.due("in reset", x.port(0), 0);
        check.due("entering reset does nothing", x.of(0, 3), 0);
        x.clock(1, 0);
        check.due("a clock in reset, chip 0", x.of(0, 3), 2);
        check.due("a clock in reset, chip 1", x.of(1, 3), 3);
    }

    private static void instructionPath(Check check) {
        ChipRing x = new ChipRing();
        x.chip(2, 256);
        x.chip(3, 256);
        x.chip(4, 9);
        Boards.toIdle(x);
        check.due("port(2)", x.port(2), 9);
        x.clocks(3, 3, 0);
        check.due("before capture", x.of(1, 5), 0);
        x.clock(0, 0);
        for (int c = 0; c < 3; c++) {
            check.due("captured by chip " + c, x.of(c, 5), 1);
            check.due("the instruction stays, chip " + c, x.of(c, 3), new int[] {3, 7, 2}[c]);
        }
        // what goes in first ends in the last chip
        long bits = 0b10_011_0101;
        check.due("bits that left", Boards.shiftAndUpdate(x, 9, bits), 0b01_001_0001);
        check.due("chip 2", x.of(2, 3), 0b0101);
        check.due("chip 1", x.of(1, 3), 0b011);
        check.due("chip 0", x.of(0, 3), 0b10);
        check.due("content of chip 0", x.of(0, 5), 0b10);
        check.due("2 without an identification is BYPASS", x.of(0, 4), 1);
        check.due("idle", x.port(0), 1);
        Boards.toShiftIr(x);
        check.due("one shift", x.clock(0, 1), 1);
        check.due("chip 0 after a shift", x.of(0, 5), 0b10);
        check.due("chip 1 after a shift", x.of(1, 5), 0b100);
        check.due("chip 2 after a shift", x.of(2, 5), 0b1000);
        check.due("one more bit leaves, and pausing shifts nothing", x.clocks(4, 0b1001, 15), 0);
        check.due("chip 0 after the pause", x.of(0, 5), 0b11);
    }

    private static void identityAndBypass(Check check) {
        ChipRing x = new ChipRing();
        x.chip(2, 0xA5);
        x.chip(3, 256);
        x.chip(2, 0x3C);
        Boards.toIdle(x);
        check.due("port(1)", x.port(1), 17);
        Boards.toShiftDr(x);
        check.due("identity captured", x.of(0, 6), 0xA5);
        check.due("bypass captured", x.of(1, 6), 0);
        check.due("bits that left", Boards.shiftAndUpdate(x, 17, 0x1FFFF), 0x3C | 0xA5 << 9);
        check.due("content stays", x.of(0, 6), 255);
        check.due("bypass content", x.of(1, 6), 1);
        check.due("latches stay without cells", x.of(0, 7), 0);
        Boards.loadInstructions(x, 0x7F);
        check.due("content stays when the instruction changes", x.of(0, 6), 255);
        check.due("all bypass", x.port(1), 3);
        Boards.toShiftDr(x);
        check.due("bypass captures 0", x.of(0, 6), 0);
        check.due("delay of three", Boards.shiftAndUpdate(x, 8, 0b10110101), 0b10101000);
    }

    private static void latchesAndCapture(Check check) {
        ChipRing x = Boards.pairInExtest();
        check.due("port(1)", x.port(1), 4);
        check.due("a single driver does not fight", x.port(3), 0);
        // chip 1 holds the two bits that went in first
        Boards.scanData(x, 0b01_10);
        check.due("latches of chip 0", x.of(0, 7), 0b01);
        check.due("latches of chip 1", x.of(1, 7), 0b10);
        check.due("output 0", x.about(0, 0, 2), 1);
        check.due("output 1", x.about(0, 1, 2), 0);
        check.due("input 0 sees", x.about(1, 0, 2), 1);
        check.due("input 1 sees", x.about(1, 1, 2), 0);
        check.due("nets", x.port(4), 253);
        // inputs answer what they see, outputs their latches
        check.due("scanned out", Boards.scanData(x, 0b10_00), 0b01_01);
        check.due("the new nets", x.port(4), 254);
        x.sticks(0, 1);
        check.due("a stuck net is scanned", Boards.scanData(x, 0b10_00), 0b10_11);
        x.opens(1, 1);
        x.sticks(1, 0);
        check.due("an open input is scanned as 1", Boards.scanData(x, 0), 0b10_11);
        Boards.toShiftDr(x);
        x.clocks(4, 0, 15);
        check.due("latches change only by update", x.of(0, 7), 0);
        check.due("content", x.of(0, 6), 3);
    }

    private static void sampleDoesNotDrive(Check check) {
        ChipRing x = Boards.pairInExtest();
        Boards.scanData(x, 0);
        check.due("EXTEST drives", x.port(4), 252);
        // chip 1 EXTEST, chip 0 SAMPLE
        Boards.loadInstructions(x, 0b01_00);
        check.due("SAMPLE does not drive", x.port(4), 255);
        check.due("latches stay", x.of(0, 7), 0);
        check.due("SAMPLE captures", Boards.scanData(x, 0b11_00), 0b00_11);
        check.due("SAMPLE updates", x.of(0, 7), 3);
        // chip 1 BYPASS, chip 0 BYPASS
        Boards.loadInstructions(x, 0b11_11);
        Boards.scanData(x, 0);
        check.due("BYPASS does not update", x.of(0, 7), 3);
    }

    private static void extestWithoutCells(Check check) {
        ChipRing x = new ChipRing();
        x.chip(2, 77);
        Boards.toIdle(x);
        Boards.loadInstructions(x, 0);
        check.due("bits", x.of(0, 4), 1);
        Boards.toShiftDr(x);
        check.due("captures 0", x.of(0, 6), 0);
        check.due("shifts by one", Boards.shiftAndUpdate(x, 3, 7), 6);
        check.due("no update", x.of(0, 7), 0);
    }

    private static void severalClocks(Check check) {
        ChipRing x = Boards.pairInExtest();
        ChipRing y = Boards.pairInExtest();
        int[][] runs = {{16, 0x2B6D, 0x7E57}, {16, 0x0181, 0xFFFF}, {9, 0x1FF, 0}, {1, 0, 1},
            {16, 0, 0xFFFF}, {7, 0x36, 0x55}, {16, 0xFFFF, 0}};
        for (int[] run : runs) {
            int bits = 0;
            int length = 0;
            for (int i = 0; i < run[0]; i++) {
                int tdo = y.clock(run[1] >> i & 1, run[2] >> i & 1);
                if (tdo != 2) {
                    bits |= tdo << length;
                    length++;
                }
            }
            check.due("clocks as many a clock", x.clocks(run[0], run[1], run[2]), bits);
            check.due("the port then", x.port(0), y.port(0));
            check.due("chip 0 then", x.of(0, 6) * 100 + x.of(0, 5), y.of(0, 6) * 100 + y.of(0, 5));
        }
        ChipRing z = new ChipRing();
        z.clocks(16, 65535, 65535);
        check.due("clocks are one act", z.told(4), 1);
        check.due("bits above n do nothing", z.clocks(1, 65534, 0), 0);
        check.due("one clock only", z.port(0), 1);
        // a gap between two shifted bits leaves no gap in the answer
        z.clocks(3, 1, 0);
        check.due("without gaps", z.clocks(5, 0b00101, 0b10001), 3);
    }

    private static void netsNow(Check check) {
        ChipRing x = new ChipRing();
        for (int c = 0; c < 3; c++) {
            x.chip(2, 256);
            x.cell(c, 1, 4);
        }
        x.cell(2, 0, 4);
        Boards.toIdle(x);
        check.due("no EXTEST: no fight", x.port(3), 0);
        check.due("no EXTEST: all at one", x.port(4), 255);
        Boards.loadInstructions(x, 0);
        check.due("all drive 0: no fight", x.port(3), 0);
        check.due("all drive 0", x.port(4), 239);
        // data: chip 2 (2 cells) first, then chip 1, then chip 0
        Boards.scanData(x, 0b0_1_01);
        check.due("1 and 0 fight", x.port(3), 16);
        check.due("a 0 wins", x.port(4), 239);
        x.sticks(4, 1);
        check.due("a stuck net fights all the same", x.port(3), 16);
        check.due("a stuck net is at its value", x.port(4), 255);
        x.heals();
        x.opens(0, 0);
        check.due("the 0 is open: no fight", x.port(3), 0);
        check.due("the 0 is open: 1", x.port(4), 255);
        x.shorts(4, 5, 0);
        check.due("a short is no fight", x.port(3), 0);
    }

    /** Four chips with six cells each, through all the states that do something. */
    private static void fullBoard(Check check) {
        ChipRing x = new ChipRing();
        for (int c = 0; c < 4; c++) {
            x.chip(4, 10 + c);
        }
        for (int k = 0; k < 6; k++) {
            x.cell(0, 1, k);
            x.cell(1, k < 2 ? 1 : 0, k < 2 ? 6 + k : k - 2);
            x.cell(2, 0, k);
            x.cell(3, 0, k + 2);
        }
        Boards.toIdle(x);
        check.due("data bits at first", x.port(1), 32);
        check.due("identities", Boards.scanData(x, 0), 0x0A0B0C0DL);
        check.due("instruction bits", x.port(2), 16);
        check.due("captured instructions", Boards.loadInstructions(x, 0), 0x1111);
        check.due("data bits in EXTEST", x.port(1), 24);
        Boards.scanData(x, 0b101101_000010_000000_000000);
        check.due("nets", x.port(4), 0b10_101101);
        check.due("latches of chip 0", x.of(0, 7), 0b101101);
        check.due("captured data", Boards.scanData(x, -1), 0b101101_110110_101101_101011);
        check.due("all latches", x.of(0, 7) + x.of(1, 7) + x.of(2, 7) + x.of(3, 7), 4 * 63);
        check.due("nets then", x.port(4), 255);
        check.due("no fight", x.port(3), 0);
        Boards.toIdle(x);
        check.due("initial instructions", x.of(0, 3) + x.of(1, 3) + x.of(2, 3) + x.of(3, 3), 8);
    }
}
