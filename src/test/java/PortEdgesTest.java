import java.util.function.Supplier;

/** The boundary cases of promises 8 to 10, and of the registers and nets behind them. */
public final class PortEdgesTest {
    private static final int SHIFT_DR = 4;
    private static final int SHIFT_IR = 11;

    public static void main(String[] args) {
        Edges edges = new Edges("PortEdgesTest");
        edges.sentence(8, "BAD if an argument is out of range", PortEdgesTest::clockArguments);
        edges.sentence(8, "TDO if in shift IR or shift DR before, otherwise 2", PortEdgesTest::twoOutsideShifting);
        edges.sentence(8, "the last clock in a shift state shifts too", PortEdgesTest::leavingShifts);
        edges.sentence(8, "without chips it is TDI", PortEdgesTest::withoutChips);

        edges.sentence(9, "n: 1 to 16; BAD if out of range", PortEdgesTest::clockCount);
        edges.sentence(9, "tms: 0 to 65535; BAD if out of range", PortEdgesTest::clocksTms);
        edges.sentence(9, "tdi: 0 to 65535; BAD if out of range", PortEdgesTest::clocksTdi);
        edges.sentence(9, "bit i is TMS (TDI) of clock i", PortEdgesTest::bitsInOrder);
        edges.sentence(9, "Does n clocks: the bits from n on do nothing", PortEdgesTest::bitsAboveN);
        edges.sentence(9, "without gaps", PortEdgesTest::withoutGaps);
        edges.sentence(9, "0 if there were none", PortEdgesTest::noneShifted);
        edges.sentence(9, "sixteen bits of TDO", PortEdgesTest::sixteenShifted);

        edges.sentence(10, "what: 0 to 4; BAD if what is out of range", PortEdgesTest::portWhat);
        edges.sentence(10, "the number of bits of all data registers, least and most", PortEdgesTest::dataBits);
        edges.sentence(10, "that of all instruction registers, least and most", PortEdgesTest::instructionBits);
        edges.sentence(10, "the set of nets that fight now, empty and full", PortEdgesTest::fightingSets);
        edges.sentence(10, "the set of nets that are 1 now, empty and full", PortEdgesTest::setsOfOnes);

        edges.sentence(0, "The port is in one of 16 states, at first 0", PortEdgesTest::statesAround);
        edges.sentence(0, "if there are no cells, everything is as for BYPASS", PortEdgesTest::noCells);
        edges.sentence(0, "2 is IDCODE if the chip has an identification", PortEdgesTest::identityCode);
        edges.sentence(0, "every other instruction is BYPASS", PortEdgesTest::otherInstructions);
        edges.sentence(0, "reset: each chip gets its initial instruction", PortEdgesTest::resetByAClock);
        edges.sentence(0, "the content of each instruction register becomes 1", PortEdgesTest::captureIr);
        edges.sentence(0, "bit k is what cell k sees (for an input) or its latch", PortEdgesTest::captureDr);
        edges.sentence(0, "the bit that comes in becomes its highest bit", PortEdgesTest::highestBit);
        edges.sentence(0, "The contents of registers stay when the instruction changes", PortEdgesTest::contentsStay);
        edges.sentence(0, "the latches stay when the instruction changes", PortEdgesTest::latchesStay);
        edges.sentence(0, "The contents and latches stay when a cell is added", PortEdgesTest::cellAdded);
        edges.sentence(0, "It is 1 if nothing drives it", PortEdgesTest::nothingDrives);
        edges.sentence(0, "1 if all these latches are 1, and 0 if not", PortEdgesTest::allLatches);
        edges.sentence(0, "It fights if it is driven by a 0 and by a 1", PortEdgesTest::fights);
        edges.sentence(0, "for each short, in the order of the faults", PortEdgesTest::shortsInOrder);
        edges.sentence(0, "After this, each stuck net, in the order of the faults", PortEdgesTest::stuckAfterShorts);
        edges.sentence(0, "An input sees the value of its net, or 1 if it is open", PortEdgesTest::openInput);
        edges.end();
    }

    /** A chip of two bits without identification, in the given state of the port. */
    private static ChipRing inState(int state) {
        ChipRing x = new ChipRing();
        x.chip(2, 256);
        Boards.toState(x, state);
        return x;
    }

    /** A chip of four bits, idle, with outputs at the nets from 0 on, and the given instruction. */
    private static ChipRing loaded(int d, int cells, int instruction) {
        ChipRing x = new ChipRing();
        x.chip(4, d);
        for (int k = 0; k < cells; k++) {
            x.cell(0, 1, k);
        }
        Boards.toIdle(x);
        Boards.loadInstructions(x, instruction);
        return x;
    }

    /** Chips in EXTEST, each with an output at net 0, chip c with bit c as its latch. */
    private static ChipRing drivers(int chips, int latches) {
        ChipRing x = new ChipRing();
        for (int c = 0; c < chips; c++) {
            x.chip(2, 256);
            x.cell(c, 1, 0);
        }
        Boards.toIdle(x);
        Boards.loadInstructions(x, 0);
        // what goes in first ends in the last chip
        Boards.scanData(x, Integer.reverse(latches) >>> 32 - chips);
        return x;
    }

    /** Three chips in EXTEST with four outputs each: chips 0 and 2 at the nets 0 to 3, chip 1 at 4 to 7. */
    private static ChipRing allNets(long latches) {
        ChipRing x = new ChipRing();
        x.chip(2, 256);
        x.chip(2, 256);
        x.chip(2, 256);
        for (int n = 0; n < 4; n++) {
            x.cell(0, 1, n);
            x.cell(1, 1, n + 4);
            x.cell(2, 1, n);
        }
        Boards.toIdle(x);
        Boards.loadInstructions(x, 0);
        Boards.scanData(x, latches);
        return x;
    }

    // ---- promise 8

    private static void clockArguments(Check check) {
        for (int state : new int[] {0, 1, SHIFT_DR, SHIFT_IR, 15}) {
            Supplier<ChipRing> board = () -> inState(state);
            Edges.takes(check, "clock(#, 0)", board, (x, v) -> x.clock(v, 0), 0, 1);
            Edges.takes(check, "clock(0, #)", board, (x, v) -> x.clock(0, v), 0, 1);
        }
        Edges.refuses(check, "clock(2, 2)", () -> inState(1), x -> x.clock(2, 2), ChipRing.BAD);
    }

    private static void twoOutsideShifting(Check check) {
        for (int state = 0; state < 16; state++) {
            for (int v = 0; v < 4; v++) {
                int answer = inState(state).clock(v & 1, v >> 1);
                // the captured instruction register gives its 1, the bypass its 0
                int due = state == SHIFT_IR ? 1 : state == SHIFT_DR ? 0 : 2;
                check.due("clock(" + (v & 1) + ", " + (v >> 1) + ") in state " + state, answer, due);
            }
        }
    }

    private static void leavingShifts(Check check) {
        ChipRing x = inState(SHIFT_IR);
        check.due("the first bit, staying", x.clock(0, 0), 1);
        check.due("the second bit, leaving", x.clock(1, 1), 0);
        check.due("the register", x.of(0, 5), 2);
        x.clocks(2, 1, 0);
        check.due("the instruction", x.of(0, 3), 2);
        ChipRing y = inState(SHIFT_DR);
        check.due("a bit of the bypass, leaving", y.clock(1, 1), 0);
        check.due("its content", y.of(0, 6), 1);
    }

    private static void withoutChips(Check check) {
        for (int state : new int[] {SHIFT_DR, SHIFT_IR}) {
            ChipRing x = new ChipRing();
            Boards.toState(x, state);
            check.due("TDI 0 in state " + state, x.clock(0, 0), 0);
            check.due("TDI 1 in state " + state, x.clock(0, 1), 1);
            check.due("sixteen in state " + state, x.clocks(16, 0, 0xB39D), 0xB39D);
            check.due("leaving state " + state, x.clock(1, 1), 1);
            check.due("after it", x.clock(0, 1), 2);
        }
        ChipRing y = new ChipRing();
        y.chip(2, 256);
        y.back();
        Boards.toState(y, SHIFT_DR);
        check.due("the chip was taken back", y.clock(0, 1), 1);
    }

    // ---- promise 9

    private static void clockCount(Check check) {
        Edges.takes(check, "clocks(#, 0, 0)", () -> inState(1), (x, n) -> x.clocks(n, 0, 0), 1, 16);
        Edges.takes(check, "clocks(#, 65535, 65535)", () -> inState(1), (x, n) -> x.clocks(n, 65535, 65535), 1, 16);
        ChipRing x = new ChipRing();
        Boards.toState(x, SHIFT_DR);
        check.due("one clock", x.clocks(1, 0, 1), 1);
        check.due("sixteen clocks", x.clocks(16, 0, 32768), 32768);
    }

    private static void clocksTms(Check check) {
        Edges.takes(check, "clocks(1, #, 0)", () -> inState(1), (x, v) -> x.clocks(1, v, 0), 0, 65535);
        Edges.takes(check, "clocks(16, #, 0)", () -> inState(1), (x, v) -> x.clocks(16, v, 0), 0, 65535);
    }

    private static void clocksTdi(Check check) {
        Edges.takes(check, "clocks(1, 0, #)", () -> inState(1), (x, v) -> x.clocks(1, 0, v), 0, 65535);
        Edges.takes(check, "clocks(16, 0, #)", () -> inState(1), (x, v) -> x.clocks(16, 0, v), 0, 65535);
    }

    private static void bitsInOrder(Check check) {
        for (int state = 0; state < 16; state++) {
            for (int tms : new int[] {0, 1, 0x8000, 0x7FFF, 0xFFFF, 0x2B6D}) {
                ChipRing x = inState(state);
                ChipRing y = inState(state);
                x.clocks(16, tms, 0x9A5F);
                for (int i = 0; i < 16; i++) {
                    y.clock(tms >> i & 1, 0x9A5F >> i & 1);
                }
                String when = " after TMS " + tms + " from " + state;
                check.due("the port" + when, x.port(0), y.port(0));
                check.due("the instruction" + when, x.of(0, 3), y.of(0, 3));
                check.due("the registers" + when, 10 * x.of(0, 5) + x.of(0, 6), 10 * y.of(0, 5) + y.of(0, 6));
            }
        }
    }

    private static void bitsAboveN(Check check) {
        for (int n = 1; n < 16; n++) {
            ChipRing x = new ChipRing();
            Boards.toState(x, SHIFT_DR);
            int above = 65535 >> n << n;
            check.due("clocks(" + n + ", " + above + ", 65535)", x.clocks(n, above, 65535), (1 << n) - 1);
            check.due("the port is still shifting", x.port(0), SHIFT_DR);
        }
    }

    private static void withoutGaps(Check check) {
        ChipRing x = new ChipRing();
        Boards.toState(x, SHIFT_DR);
        // shift, leave (two bits), pause, back to shifting, one more bit
        check.due("a gap of three clocks", x.clocks(6, 0b001010, 0b100011), 0b111);
        check.due("the port", x.port(0), SHIFT_DR);
        check.due("a gap at the end", x.clocks(4, 0b0001, 0b1110), 0);
        check.due("a gap at the start", x.clocks(3, 0b001, 0b100), 1);
        check.due("the port at the end", x.port(0), SHIFT_DR);
    }

    private static void noneShifted(Check check) {
        check.due("idle", inState(1).clocks(16, 0, 65535), 0);
        check.due("reset", inState(0).clocks(16, 65535, 65535), 0);
        check.due("pause DR", inState(6).clocks(16, 0, 65535), 0);
        check.due("pause IR", inState(13).clocks(16, 0, 65535), 0);
        check.due("up to shift DR, but not in it", inState(1).clocks(3, 1, 7), 0);
    }

    private static void sixteenShifted(Check check) {
        ChipRing x = new ChipRing();
        Boards.toState(x, SHIFT_IR);
        check.due("all at one", x.clocks(16, 0, 65535), 65535);
        check.due("the last alone, leaving by it", x.clocks(16, 32768, 32768), 32768);
        check.due("the port", x.port(0), 12);
    }

    // ---- promise 10

    private static void portWhat(Check check) {
        Edges.takes(check, "port(#)", ChipRing::new, ChipRing::port, 0, 4);
        Edges.takes(check, "port(#) of a board", Boards::pairInExtest, ChipRing::port, 0, 4);
    }

    private static void dataBits(Check check) {
        ChipRing x = new ChipRing();
        check.due("without chips", x.port(1), 0);
        x.chip(2, 256);
        check.due("one bypass", x.port(1), 1);
        for (int c = 1; c < 4; c++) {
            x.chip(4, 255);
            check.due("and " + c + " identifications", x.port(1), 1 + 8 * c);
        }
        ChipRing y = new ChipRing();
        for (int c = 0; c < 4; c++) {
            y.chip(4, c);
        }
        check.due("four identifications", y.port(1), 32);
        Boards.toIdle(y);
        Boards.loadInstructions(y, 0x1010);
        check.due("EXTEST and SAMPLE without cells", y.port(1), 4);
        for (int k = 1; k <= 6; k++) {
            y.cell(3, 0, k);
            check.due(k + " cells", y.port(1), 3 + k);
        }
    }

    private static void instructionBits(Check check) {
        ChipRing x = new ChipRing();
        check.due("without chips", x.port(2), 0);
        for (int c = 1; c <= 4; c++) {
            x.chip(4, 0);
            check.due(c + " chips of four bits", x.port(2), 4 * c);
        }
        ChipRing y = new ChipRing();
        y.chip(2, 0);
        check.due("two bits", y.port(2), 2);
        y.chip(3, 0);
        check.due("and three", y.port(2), 5);
    }

    private static void fightingSets(Check check) {
        check.due("without chips", new ChipRing().port(3), 0);
        check.due("no fight", allNets(0).port(3), 0);
        check.due("nets 0 to 3 fight", allNets(0b1111_0000_0000L).port(3), 15);
        check.due("net 0 alone fights", allNets(0b0001_1111_0000L).port(3), 1);
        check.due("net 3 alone fights", allNets(0b1000_0000_0000L).port(3), 8);
        ChipRing x = new ChipRing();
        for (int c = 0; c < 4; c++) {
            x.chip(2, 256);
            for (int k = 0; k < 4; k++) {
                x.cell(c, 1, 4 * (c % 2) + k);
            }
        }
        Boards.toIdle(x);
        Boards.loadInstructions(x, 0);
        Boards.scanData(x, 0xFF00);
        check.due("all nets fight", x.port(3), 255);
        check.due("and all are 0", x.port(4), 0);
    }

    private static void setsOfOnes(Check check) {
        check.due("without chips", new ChipRing().port(4), 255);
        check.due("all driven to 0", allNets(0).port(4), 0);
        check.due("all driven to 1", allNets(0xFFF).port(4), 255);
        check.due("net 7 alone", allNets(0b0000_1000_0000L).port(4), 128);
        check.due("net 0 alone", allNets(0b0001_0000_0001L).port(4), 1);
    }

    // ---- the registers

    private static void statesAround(Check check) {
        check.due("at first", new ChipRing().port(0), 0);
        int[][] next = {
            {1, 0}, {1, 2}, {3, 9}, {4, 5}, {4, 5}, {6, 8}, {6, 7}, {4, 8},
            {1, 2}, {10, 0}, {11, 12}, {11, 12}, {13, 15}, {13, 14}, {11, 15}, {1, 2}
        };
        for (int state = 0; state < 16; state++) {
            for (int tms = 0; tms < 2; tms++) {
                ChipRing x = inState(state);
                check.due("the way", x.port(0), state);
                x.clock(tms, 0);
                check.due("after state " + state + " with TMS " + tms, x.port(0), next[state][tms]);
            }
            ChipRing y = inState(state);
            y.clocks(5, 31, 0);
            check.due("five ones from state " + state, y.port(0), 0);
        }
    }

    private static void noCells(Check check) {
        for (int d : new int[] {77, 256}) {
            for (int instruction = 0; instruction < 2; instruction++) {
                ChipRing x = loaded(d, 0, instruction);
                String when = ", instruction " + instruction + ", identification " + d;
                check.due("the instruction" + when, x.of(0, 3), instruction);
                check.due("bits" + when, x.of(0, 4), 1);
                Boards.toShiftDr(x);
                check.due("captured" + when, x.of(0, 6), 0);
                check.due("shifted" + when, x.clocks(4, 8, 0b1011), 0b0110);
                check.due("content" + when, x.of(0, 6), 1);
                x.clocks(2, 1, 0);
                check.due("no update" + when, x.of(0, 7), 0);
                x.cell(0, 1, 0);
                check.due("content after a cell" + when, x.of(0, 6), 1);
                check.due("latches after a cell" + when, x.of(0, 7), 0);
                check.due("bits after a cell" + when, x.of(0, 4), 1);
                Boards.scanData(x, 1);
                check.due("an update after a cell" + when, x.of(0, 7), 1);
            }
        }
        ChipRing y = loaded(256, 0, 0);
        Boards.toShiftDr(y);
        y.clock(1, 1);
        y.cell(0, 1, 4);
        y.clocks(2, 1, 0);
        check.due("a cell that comes before the update", y.of(0, 7), 1);
    }

    private static void identityCode(Check check) {
        for (int d : new int[] {0, 1, 128, 255, 256}) {
            ChipRing x = loaded(d, 3, 2);
            boolean has = d < 256;
            check.due("bits for " + d, x.of(0, 4), has ? 8 : 1);
            Boards.toShiftDr(x);
            check.due("captured for " + d, x.of(0, 6), has ? d : 0);
            check.due("bits out for " + d, x.clocks(9, 256, 1), has ? 256 | d : 2);
            x.clocks(2, 1, 0);
            check.due("no update for " + d, x.of(0, 7), 0);
        }
    }

    private static void otherInstructions(Check check) {
        for (int instruction = 3; instruction < 16; instruction++) {
            ChipRing x = loaded(255, 6, instruction);
            check.due("the instruction", x.of(0, 3), instruction);
            check.due("bits for " + instruction, x.of(0, 4), 1);
            Boards.toShiftDr(x);
            check.due("captured for " + instruction, x.of(0, 6), 0);
            check.due("a bit late for " + instruction, x.clocks(3, 4, 5), 2);
            x.clocks(2, 1, 0);
            check.due("no update for " + instruction, x.of(0, 7), 0);
            check.due("no output drives for " + instruction, x.port(4), 255);
        }
    }

    private static void resetByAClock(Check check) {
        ChipRing x = loaded(9, 1, 0);
        x.clocks(3, 7, 0);
        check.due("the port is in reset", x.port(0), 0);
        check.due("but no clock was done there", x.of(0, 3), 0);
        check.due("and the output drives", x.port(4), 254);
        x.clock(0, 0);
        check.due("a clock that leaves it", x.of(0, 3), 2);
        check.due("no output drives", x.port(4), 255);
        for (int l = 2; l <= 4; l++) {
            ChipRing y = new ChipRing();
            y.chip(l, 256);
            Boards.toIdle(y);
            Boards.loadInstructions(y, 1);
            y.clocks(4, 15, 0);
            check.due("none, " + l + " bits", y.of(0, 3), (1 << l) - 1);
        }
    }

    private static void captureIr(Check check) {
        ChipRing x = new ChipRing();
        for (int l = 2; l <= 4; l++) {
            x.chip(l, 256);
        }
        Boards.toState(x, 10);
        check.due("before the clock", x.of(0, 5) + x.of(1, 5) + x.of(2, 5), 0);
        x.clock(1, 1);
        for (int c = 0; c < 3; c++) {
            check.due("chip " + c, x.of(c, 5), 1);
        }
        x.clocks(2, 1, 0);
        check.due("1 is SAMPLE then", x.of(2, 3), 1);
    }

    /** Nothing is asked before the capture, so that it has to settle the nets itself. */
    private static void captureDr(Check check) {
        for (int k = 0; k < 6; k++) {
            ChipRing x = new ChipRing();
            x.chip(2, 256);
            for (int i = 0; i < 6; i++) {
                x.cell(0, i == k ? 0 : 1, i == k ? 7 : i);
            }
            Boards.toIdle(x);
            Boards.loadInstructions(x, 0);
            Boards.scanData(x, 0b101010);
            x.sticks(7, 0);
            Boards.toShiftDr(x);
            check.due("input " + k + " at 0", x.of(0, 6), 0b101010 & ~(1 << k));
            x.clocks(3, 3, 0);
            x.heals();
            x.clocks(3, 1, 0);
            int latches = x.of(0, 7);
            check.due("input " + k + " at 1", x.of(0, 6), latches | 1 << k);
        }
        ChipRing inputs = new ChipRing();
        inputs.chip(2, 256);
        for (int i = 0; i < 6; i++) {
            inputs.cell(0, 0, i);
        }
        Boards.toIdle(inputs);
        Boards.loadInstructions(inputs, 1);
        inputs.sticks(0, 0);
        inputs.sticks(4, 0);
        Boards.toShiftDr(inputs);
        check.due("six inputs", inputs.of(0, 6), 0b101110);
        inputs.clocks(3, 3, 0);
        inputs.sticks(4, 1);
        inputs.sticks(5, 0);
        inputs.clocks(2, 1, 0);
        check.due("before the clock in capture DR", inputs.of(0, 6), 0b010111);
        inputs.clock(1, 0);
        check.due("after it", inputs.of(0, 6), 0b011110);
    }

    private static void highestBit(Check check) {
        for (int l = 2; l <= 4; l++) {
            ChipRing x = new ChipRing();
            x.chip(l, 256);
            Boards.toState(x, SHIFT_IR);
            x.clock(0, 1);
            check.due("instruction register of " + l + " bits", x.of(0, 5), 1 << l - 1);
        }
        for (int cells = 1; cells <= 6; cells++) {
            ChipRing x = loaded(256, cells, 1);
            Boards.toShiftDr(x);
            x.clock(0, 1);
            check.due("data register of " + cells + " cells", x.of(0, 6), 1 << cells - 1);
        }
        ChipRing y = loaded(0, 0, 2);
        Boards.toShiftDr(y);
        y.clock(0, 1);
        check.due("identification register", y.of(0, 6), 128);
    }

    private static void contentsStay(Check check) {
        ChipRing x = loaded(255, 2, 2);
        Boards.scanData(x, 255);
        check.due("eight bits", x.of(0, 6), 255);
        Boards.loadInstructions(x, 15);
        check.due("a register of one bit", x.of(0, 4), 1);
        check.due("holds eight still", x.of(0, 6), 255);
        check.due("the instruction register", x.of(0, 5), 15);
        x.clocks(4, 15, 0);
        check.due("the instruction register after reset", x.of(0, 5), 15);
        check.due("the data register after reset", x.of(0, 6), 255);
        check.due("the initial instruction", x.of(0, 3), 2);
    }

    private static void latchesStay(Check check) {
        ChipRing x = loaded(5, 6, 0);
        Boards.scanData(x, 0b110101);
        for (int instruction : new int[] {1, 2, 3, 15, 0}) {
            Boards.loadInstructions(x, instruction);
            check.due("latches with instruction " + instruction, x.of(0, 7), 0b110101);
            check.due("output 5 with instruction " + instruction, x.about(0, 5, 2), 1);
            int driven = instruction == 0 ? 255 - 0b001010 : 255;
            check.due("nets with instruction " + instruction, x.port(4), driven);
        }
        x.clocks(4, 15, 0);
        check.due("latches after reset", x.of(0, 7), 0b110101);
    }

    private static void cellAdded(Check check) {
        ChipRing x = loaded(256, 2, 0);
        Boards.scanData(x, 3);
        Boards.toShiftDr(x);
        x.clocks(2, 0, 2);
        x.cell(0, 0, 7);
        check.due("the data register", x.of(0, 6), 2);
        check.due("the instruction register", x.of(0, 5), 0);
        check.due("the latches", x.of(0, 7), 3);
        check.due("bits", x.of(0, 4), 3);
        check.due("the instruction", x.of(0, 3), 0);
        check.due("the port", x.port(0), SHIFT_DR);
        x.clock(1, 1);
        check.due("the new highest bit", x.of(0, 6), 5);
        x.clocks(2, 1, 0);
        check.due("the new latches", x.of(0, 7), 5);
        ChipRing y = inState(SHIFT_IR);
        y.clocks(2, 0, 3);
        y.cell(0, 1, 0);
        check.due("an instruction register of ones", y.of(0, 5), 3);
        check.due("a bit of it", y.clock(0, 0), 1);
    }

    // ---- the nets

    private static void nothingDrives(Check check) {
        check.due("no output", new ChipRing().port(4), 255);
        check.due("an output without EXTEST", loaded(256, 1, 1).port(4), 255);
        check.due("an output with EXTEST", loaded(256, 1, 0).port(4), 254);
        ChipRing x = loaded(256, 1, 0);
        x.opens(0, 0);
        check.due("an open output", x.port(4), 255);
        ChipRing y = drivers(2, 0);
        y.opens(0, 0);
        check.due("one of two outputs open", y.port(4), 254);
        y.opens(1, 0);
        check.due("both open", y.port(4), 255);
    }

    private static void allLatches(Check check) {
        for (int chips = 1; chips <= 4; chips++) {
            int all = (1 << chips) - 1;
            for (int latches = 0; latches <= all; latches++) {
                ChipRing x = drivers(chips, latches);
                check.due("net 0 by " + latches + " of " + chips, x.port(4) & 1, latches == all ? 1 : 0);
            }
        }
    }

    private static void fights(Check check) {
        for (int chips = 1; chips <= 4; chips++) {
            int all = (1 << chips) - 1;
            for (int latches = 0; latches <= all; latches++) {
                boolean both = latches != 0 && latches != all;
                check.due("fight of " + latches + " of " + chips, drivers(chips, latches).port(3), both ? 1 : 0);
            }
        }
        ChipRing x = drivers(3, 0b101);
        x.opens(1, 0);
        check.due("the 0 is open", x.port(3), 0);
        ChipRing y = drivers(3, 0b001);
        y.opens(1, 0);
        check.due("one of two 0 is open", y.port(3), 1);
        y.sticks(0, 1);
        check.due("stuck, but it fights", y.port(3), 1);
    }

    private static void shortsInOrder(Check check) {
        ChipRing x = loaded(256, 1, 0);
        x.shorts(6, 7, 0);
        x.shorts(1, 6, 0);
        x.shorts(0, 1, 0);
        check.due("the 0 goes one net far", x.port(4), 252);
        x.shorts(1, 7, 0);
        check.due("and by the fourth fault to net 7", x.port(4), 124);
        ChipRing y = loaded(256, 2, 0);
        y.shorts(0, 1, 1);
        check.due("OR of two zeros", y.port(4), 252);
        y.shorts(1, 7, 1);
        check.due("OR with a 1", y.port(4), 254);
        y.shorts(0, 1, 0);
        check.due("AND after it", y.port(4), 252);
    }

    private static void stuckAfterShorts(Check check) {
        ChipRing x = new ChipRing();
        x.sticks(0, 0);
        x.shorts(0, 1, 0);
        check.due("the short does not see the stuck net", x.port(4), 254);
        x.sticks(0, 1);
        check.due("the latest stuck one holds", x.port(4), 255);
        x.sticks(0, 0);
        check.due("and again the latest", x.port(4), 254);
    }

    private static void openInput(Check check) {
        ChipRing x = Boards.pairInExtest();
        check.due("input 0 sees 0", x.about(1, 0, 2), 0);
        x.opens(1, 0);
        check.due("open, it sees 1", x.about(1, 0, 2), 1);
        check.due("the other input sees 0", x.about(1, 1, 2), 0);
        check.due("the net is 0", x.port(4), 252);
        x.sticks(0, 0);
        check.due("open, and the net stuck at 0", x.about(1, 0, 2), 1);
        Boards.toShiftDr(x);
        check.due("captured", x.of(1, 6), 1);
        x.opens(0, 0);
        check.due("an open output tells its latch", x.about(0, 0, 2), 0);
    }
}
