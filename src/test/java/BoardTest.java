/** Promises 1 to 7: a new object, chip, cell, opens, sticks, shorts, heals. */
public final class BoardTest {
    public static void main(String[] args) {
        Check check = new Check("BoardTest");
        newObject(check);
        chips(check);
        cells(check);
        openCells(check);
        stuckNets(check);
        shortNets(check);
        healing(check);
        check.end();
    }

    private static void newObject(Check check) {
        ChipRing x = new ChipRing();
        for (int what = 0; what < 5; what++) {
            check.due("new told(" + what + ")", x.told(what), 0);
            check.due("new count(" + what + ")", x.count(what), 0);
            check.due("new port(" + what + ")", x.port(what), what == 4 ? 255 : 0);
        }
        check.due("new fault(0)", x.fault(0), ChipRing.NONE);
        check.due("new patterns(0)", x.patterns(0), 1);
        check.due("new patterns(1)", x.patterns(1), 2);
        check.due("new suspects(0, -1)", x.suspects(0, -1), 1);
        check.due("new does()", x.does(), -10);
        check.due("new clear()", x.clear(), 0);
        check.refused(x, "new back()", x::back, ChipRing.NO);
        ChipRing other = new ChipRing();
        other.chip(2, 0);
        check.due("objects have boards of their own", x.count(0), 0);
    }

    private static void chips(Check check) {
        ChipRing x = new ChipRing();
        check.due("chip(2, 0)", x.chip(2, 0), 0);
        check.due("chip(3, 256)", x.chip(3, 256), 1);
        check.due("chip(4, 255)", x.chip(4, 255), 2);
        check.due("kept after three chips", x.told(4), 3);
        check.due("chip(4, 256)", x.chip(4, 256), 3);
        int[] bits = {2, 3, 4, 4};
        int[] identity = {0, 256, 255, 256};
        int[] initial = {2, 7, 2, 15};
        int[] dataBits = {8, 1, 8, 1};
        for (int c = 0; c < 4; c++) {
            int[] due = {bits[c], identity[c], 0, initial[c], dataBits[c], 0, 0, 0};
            for (int what = 0; what < 8; what++) {
                check.due("of(" + c + ", " + what + ")", x.of(c, what), due[what]);
            }
        }
        chipInTheMiddle(check);
    }

    private static void chipInTheMiddle(Check check) {
        ChipRing x = Boards.pairInExtest();
        Boards.toShiftIr(x);
        check.due("a chip while shifting", x.chip(2, 256), 2);
        check.due("its instruction", x.of(2, 3), 3);
        check.due("its instruction register", x.of(2, 5), 0);
        x.back();
        x.back();
        Boards.scanData(x, 15);
        check.due("latches before", x.of(0, 7), 3);
        x.back();
        check.due("chip again after back", x.chip(2, 1), 2);
        check.due("latches of the new chip", x.of(2, 7), 0);
    }

    private static void cells(Check check) {
        ChipRing x = new ChipRing();
        x.chip(2, 256);
        x.chip(2, 5);
        for (int k = 0; k < 6; k++) {
            check.due("cell " + k, x.cell(1, k % 2, 7 - k), k);
        }
        check.due("a cell of the other chip", x.cell(0, 1, 7), 0);
        for (int k = 0; k < 6; k++) {
            check.due("kind of cell " + k, x.about(1, k, 0), k % 2);
            check.due("net of cell " + k, x.about(1, k, 1), 7 - k);
        }
        check.due("cells", x.count(1), 7);
        check.due("kept", x.told(4), 5);
        cellWhileShifting(check);
    }

    /** The contents and latches stay when a cell is added; the register grows. */
    private static void cellWhileShifting(Check check) {
        ChipRing x = Boards.pairInExtest();
        Boards.toShiftDr(x);
        x.clocks(4, 0, 15);
        check.due("content before", x.of(0, 6), 3);
        check.due("a cell while shifting", x.cell(0, 0, 5), 2);
        check.due("content after", x.of(0, 6), 3);
        check.due("bits after", x.of(0, 4), 3);
        check.due("TDO", x.clock(0, 1), 1);
        check.due("content shifted", x.of(0, 6), 5);
        check.due("content of the next", x.of(1, 6), 3);
    }

    private static void openCells(Check check) {
        ChipRing x = Boards.pairInExtest();
        check.due("seen before", x.about(1, 0, 2), 0);
        check.due("opens(1, 0)", x.opens(1, 0), 1);
        check.due("an open input", x.about(1, 0, 2), 1);
        check.due("its net", x.port(4), 252);
        check.due("opens(0, 1)", x.opens(0, 1), 2);
        check.due("an open output's net", x.port(4), 254);
        check.due("an open output's latch", x.about(0, 1, 2), 0);
        check.due("the same again", x.opens(0, 1), 3);
        check.due("opens(1, 1)", x.opens(1, 1), 4);
        int[] codes = {1010, 1001, 1001, 1011};
        for (int i = 0; i < 4; i++) {
            check.due("fault(" + i + ")", x.fault(i), codes[i]);
        }
    }

    private static void stuckNets(Check check) {
        ChipRing x = Boards.pairInExtest();
        check.due("sticks(0, 1)", x.sticks(0, 1), 1);
        check.due("what is seen", x.about(1, 0, 2), 1);
        check.due("sticks(7, 0)", x.sticks(7, 0), 2);
        check.due("nets at one", x.port(4), 125);
        check.due("the later one wins", x.sticks(0, 0), 3);
        check.due("nets at one then", x.port(4), 124);
        check.due("the same again", x.sticks(0, 0), 4);
        int[] codes = {2001, 2070, 2000, 2000};
        for (int i = 0; i < 4; i++) {
            check.due("fault(" + i + ")", x.fault(i), codes[i]);
        }
    }

    private static void shortNets(Check check) {
        ChipRing x = Boards.pairInExtest();
        check.due("nets at one", x.port(4), 252);
        check.due("shorts(7, 0, 0)", x.shorts(7, 0, 0), 1);
        check.due("after AND with net 0", x.port(4), 124);
        check.due("shorts(1, 6, 1)", x.shorts(1, 6, 1), 2);
        check.due("after OR of 1 and 6", x.port(4), 126);
        check.due("shorts(0, 1, 1)", x.shorts(0, 1, 1), 3);
        check.due("in the order of the faults", x.port(4), 127);
        check.due("the same again", x.shorts(1, 0, 1), 4);
        int[] codes = {3007, 4016, 4001, 4001};
        for (int i = 0; i < 4; i++) {
            check.due("fault(" + i + ")", x.fault(i), codes[i]);
        }
        orderOfKinds(check);
    }

    /** Shorts come before stuck nets, whatever the order in which they were added. */
    private static void orderOfKinds(Check check) {
        ChipRing x = new ChipRing();
        x.sticks(2, 0);
        x.shorts(2, 3, 0);
        check.due("stuck first, then short", x.port(4), 251);
        ChipRing y = new ChipRing();
        y.chip(2, 256);
        y.cell(0, 1, 0);
        Boards.toIdle(y);
        Boards.loadInstructions(y, 0);
        y.shorts(0, 1, 0);
        y.shorts(1, 2, 0);
        check.due("a chain of shorts, onward", y.port(4), 248);
        y.heals();
        y.shorts(1, 2, 0);
        y.shorts(0, 1, 0);
        check.due("a chain of shorts, backward", y.port(4), 252);
    }

    private static void healing(Check check) {
        ChipRing x = Boards.pairInExtest();
        int kept = x.told(4);
        check.due("heals() without faults", x.heals(), 0);
        check.due("it is an act all the same", x.told(4), Math.min(5, kept + 1));
        x.sticks(0, 1);
        x.shorts(1, 2, 1);
        x.opens(0, 0);
        check.due("heals()", x.heals(), 3);
        check.due("count(2)", x.count(2), 0);
        check.due("fault(0)", x.fault(0), ChipRing.NONE);
        check.due("nets", x.port(4), 252);
        check.due("a fault after it", x.sticks(5, 0), 1);
        check.due("fault(0) then", x.fault(0), 2050);
        ChipRing y = new ChipRing();
        y.heals();
        check.due("a state is kept for an act that changes nothing", y.told(4), 1);
    }
}
