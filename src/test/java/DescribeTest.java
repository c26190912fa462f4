/** Promises 11 to 14: of, about, count, fault. */
public final class DescribeTest {
    public static void main(String[] args) {
        Check check = new Check("DescribeTest");
        chips(check);
        cells(check);
        counts(check);
        faults(check);
        check.end();
    }

    private static void chips(Check check) {
        ChipRing x = Boards.pairInExtest();
        Boards.scanData(x, 0b01_10);
        int[][] due = {{2, 90, 2, 0, 2, 0, 1, 1}, {2, 256, 2, 0, 2, 0, 2, 2}};
        for (int c = 0; c < 2; c++) {
            for (int what = 0; what < 8; what++) {
                check.due("of(" + c + ", " + what + ")", x.of(c, what), due[c][what]);
            }
        }
        instructions(check);
    }

    private static void instructions(Check check) {
        ChipRing x = new ChipRing();
        x.chip(4, 200);
        x.chip(4, 256);
        for (int k = 0; k < 5; k++) {
            x.cell(0, 0, k);
            x.cell(1, 1, k);
        }
        Boards.toIdle(x);
        for (int instruction = 0; instruction < 16; instruction++) {
            Boards.loadInstructions(x, instruction * 17);
            check.due("instruction", x.of(0, 3), instruction);
            int withIdentity = instruction < 2 ? 5 : instruction == 2 ? 8 : 1;
            int without = instruction < 2 ? 5 : 1;
            check.due("bits for " + instruction, x.of(0, 4), withIdentity);
            check.due("bits without identification for " + instruction, x.of(1, 4), without);
            check.due("bits in all", x.port(1), withIdentity + without);
        }
    }

    private static void cells(Check check) {
        ChipRing x = Boards.pairInExtest();
        Boards.scanData(x, 0b10_00);
        int[][][] due = {{{1, 0, 0}, {1, 1, 1}}, {{0, 0, 0}, {0, 1, 1}}};
        for (int c = 0; c < 2; c++) {
            for (int k = 0; k < 2; k++) {
                for (int what = 0; what < 3; what++) {
                    check.due("about(" + c + ", " + k + ", " + what + ")", x.about(c, k, what), due[c][k][what]);
                }
            }
        }
    }

    private static void counts(Check check) {
        ChipRing x = new ChipRing();
        x.chip(2, 1);
        x.chip(2, 1);
        x.chip(2, 1);
        x.cell(0, 1, 7);
        x.cell(0, 0, 2);
        x.cell(2, 0, 0);
        x.cell(2, 1, 3);
        x.cell(2, 1, 7);
        x.sticks(5, 1);
        x.sticks(5, 1);
        int[] due = {3, 5, 2, 0b10001101, 0b10001000};
        for (int what = 0; what < 5; what++) {
            check.due("count(" + what + ")", x.count(what), due[what]);
        }
        x.back();
        x.back();
        x.back();
        x.back();
        check.due("count(3) after back", x.count(3), 0b10000101);
        check.due("count(4) after back", x.count(4), 0b10000000);
        check.due("count(1) after back", x.count(1), 3);
    }

    private static void faults(Check check) {
        ChipRing x = Boards.pair();
        x.shorts(6, 2, 0);
        x.opens(1, 1);
        x.shorts(3, 7, 1);
        int[] due = {3026, 1011, 4037};
        for (int i = 0; i < 3; i++) {
            check.due("fault(" + i + ")", x.fault(i), due[i]);
        }
        int bads = x.told(0);
        for (int i : new int[] {3, 4, 5, Integer.MAX_VALUE}) {
            check.due("fault(" + i + ")", x.fault(i), ChipRing.NONE);
        }
        check.due("NONE is not counted", x.told(0), bads);
        x.sticks(1, 1);
        check.due("the fourth fault", x.fault(3), 2011);
    }
}
