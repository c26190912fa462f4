/** Promises 15 to 19: patterns, pattern, answer, seen, suspects. */
public final class InterconnectTest {
    public static void main(String[] args) {
        Check check = new Check("InterconnectTest");
        numbersOfPatterns(check);
        patternBits(check);
        answers(check);
        testsLeaveTheBoard(check);
        seenFaults(check);
        suspectsOfTheWholeBoard(check);
        suspectsWithoutInputs(check);
        testOneKnowsMore(check);
        inputsOfTheFirstChip(check);
        check.end();
    }

    /** A board whose chip 0 and 1 have m outputs, at the nets from 0 on. */
    private static ChipRing outputs(int m) {
        ChipRing x = new ChipRing();
        x.chip(2, 256);
        x.chip(2, 256);
        for (int n = 0; n < m; n++) {
            x.cell(n / 4, 1, n);
        }
        return x;
    }

    private static void numbersOfPatterns(Check check) {
        int[] due = {1, 2, 2, 3, 3, 3, 3, 4, 4};
        for (int m = 0; m <= 8; m++) {
            ChipRing x = outputs(m);
            check.due("patterns(0) for " + m, x.patterns(0), due[m]);
            check.due("patterns(1) for " + m, x.patterns(1), 2 * due[m]);
        }
        ChipRing x = outputs(2);
        x.cell(1, 1, 0);
        x.cell(1, 1, 1);
        x.cell(1, 0, 5);
        check.due("nets count, not outputs", x.patterns(0), 2);
        x.opens(0, 0);
        check.due("open outputs count too", x.patterns(0), 2);
    }

    private static void patternBits(Check check) {
        ChipRing x = new ChipRing();
        x.chip(2, 256);
        x.cell(0, 1, 6);
        x.cell(0, 1, 1);
        x.cell(0, 0, 3);
        x.cell(0, 1, 4);
        int[] nets = {1, 4, 6};
        for (int code = 1; code <= 3; code++) {
            for (int i = 0; i < 3; i++) {
                int bit = code >> i & 1;
                int n = nets[code - 1];
                check.due("pattern(0, " + i + ", " + n + ")", x.pattern(0, i, n), bit);
                check.due("pattern(1, " + i + ", " + n + ")", x.pattern(1, i, n), bit);
                check.due("pattern(1, " + (i + 3) + ", " + n + ")", x.pattern(1, i + 3, n), 1 - bit);
            }
        }
        check.due("a net with an input alone", x.pattern(0, 0, 3), ChipRing.NONE);
        check.due("a net without cells", x.pattern(1, 5, 7), ChipRing.NONE);
        check.due("NONE is not counted", x.told(0), 0);
    }

    /** Outputs at nets 0, 1, 2 (two of them at 2), inputs at 0, 1, 2 and 3. */
    private static ChipRing bus() {
        ChipRing x = new ChipRing();
        x.chip(3, 256);
        x.chip(3, 1);
        x.chip(3, 2);
        x.cell(0, 1, 0);
        x.cell(0, 1, 1);
        x.cell(0, 1, 2);
        x.cell(1, 1, 2);
        for (int n = 0; n < 4; n++) {
            x.cell(2, 0, n);
        }
        return x;
    }

    private static void answersAre(Check check, ChipRing x, String when, int... due) {
        for (int k = 0; k < due.length; k++) {
            check.due(when + ": answer(1, 2, " + k + ")", x.answer(1, 2, k), due[k]);
            check.due(when + ": answer(0, 2, " + k + ")", x.answer(0, 2, k), due[k] & 7);
        }
    }

    private static void answers(Check check) {
        ChipRing x = bus();
        answersAre(check, x, "sound", 0b110_001, 0b101_010, 0b100_011, 0b111_111);
        x.opens(0, 2);
        answersAre(check, x, "one of two outputs open", 0b110_001, 0b101_010, 0b100_011, 0b111_111);
        x.opens(1, 0);
        answersAre(check, x, "both open", 0b110_001, 0b101_010, 0b111_111, 0b111_111);
        x.shorts(0, 1, 1);
        answersAre(check, x, "and an OR", 0b111_011, 0b111_011, 0b111_111, 0b111_111);
        x.sticks(3, 0);
        answersAre(check, x, "and a stuck net", 0b111_011, 0b111_011, 0b111_111, 0);
        x.heals();
        x.sticks(0, 0);
        x.shorts(0, 1, 0);
        x.opens(2, 0);
        answersAre(check, x, "an open input of a stuck net", 0b111_111, 0b100_000, 0b100_011, 0b111_111);
    }

    private static void testsLeaveTheBoard(Check check) {
        ChipRing x = Boards.pairInExtest();
        Boards.scanData(x, 0b01_10);
        x.shorts(0, 1, 1);
        long before = x.digest();
        x.answer(0, 1, 0);
        x.answer(1, 1, 1);
        x.seen(1);
        x.suspects(0, 0);
        x.pattern(1, 1, 1);
        check.due("digest after tests", x.digest(), before);
    }

    private static void seenFaults(Check check) {
        ChipRing x = bus();
        check.due("sound seen(0)", x.seen(0), 0);
        check.due("sound seen(1)", x.seen(1), 0);
        x.opens(0, 2);
        check.due("a fault that does not show", x.seen(1), 0);
        x.sticks(7, 0);
        check.due("a stuck net without cells", x.seen(1), 0);
        x.sticks(2, 1);
        check.due("a stuck net shows in test 0", x.seen(0), 1);
        check.due("a stuck net shows in test 1", x.seen(1), 1);
    }

    private static void suspectsAre(Check check, ChipRing x, int t, int... due) {
        check.due("suspects(" + t + ", NONE)", x.suspects(t, ChipRing.NONE), due.length);
        for (int i = 0; i < due.length; i++) {
            check.due("suspects(" + t + ", " + i + ")", x.suspects(t, i), due[i]);
        }
        check.due("one more", x.suspects(t, due.length), -5);
        check.due("many more", x.suspects(t, Integer.MAX_VALUE), -5);
    }

    private static void suspectsOfTheWholeBoard(Check check) {
        ChipRing x = bus();
        // net 3 is never driven: it is 1, so that an OR with it holds the other net at 1
        suspectsAre(check, x, 1, 0, 1002, 1010, 1023, 2031);
        x.sticks(3, 0);
        suspectsAre(check, x, 1, 2030);
        x.heals();
        x.shorts(3, 0, 1);
        suspectsAre(check, x, 1, 1000, 1020, 2001, 4003);
        x.heals();
        x.shorts(1, 2, 0);
        suspectsAre(check, x, 1, 3012);
        x.sticks(1, 1);
        suspectsAre(check, x, 0);
        x.heals();
        x.shorts(3, 1, 0);
        suspectsAre(check, x, 1, 3013);
        int bads = x.told(0);
        check.due("-5 is not counted", x.suspects(0, 99), -5);
        check.due("as said", x.told(0), bads);
    }

    /** Without inputs everything explains the answers; a full board has the most suspects. */
    private static void suspectsWithoutInputs(Check check) {
        ChipRing x = new ChipRing();
        x.chip(2, 256);
        x.cell(0, 1, 2);
        x.cell(0, 1, 5);
        suspectsAre(check, x, 0, 0, 1000, 1001, 2020, 2021, 2050, 2051, 3025, 4025);
        x.sticks(2, 0);
        suspectsAre(check, x, 1, 0, 1000, 1001, 2020, 2021, 2050, 2051, 3025, 4025);
        ChipRing full = new ChipRing();
        for (int c = 0; c < 4; c++) {
            full.chip(2, 256);
            for (int k = 0; k < 6; k++) {
                full.cell(c, 1, (6 * c + k) % 8);
            }
        }
        check.due("all suspects", full.suspects(1, ChipRing.NONE), 97);
        check.due("the last open cell", full.suspects(1, 24), 1035);
        check.due("the first stuck net", full.suspects(1, 25), 2000);
        check.due("the first AND", full.suspects(1, 41), 3001);
        check.due("the first OR", full.suspects(1, 69), 4001);
        check.due("the last OR", full.suspects(1, 96), 4067);
        check.due("none after it", full.suspects(1, 97), -5);
    }

    /** Codes 1 and 3: in test 0 an OR of them looks like net 0 held at the code 3. */
    private static void testOneKnowsMore(Check check) {
        ChipRing x = new ChipRing();
        x.chip(2, 256);
        x.chip(2, 256);
        x.cell(0, 1, 0);
        x.cell(0, 1, 1);
        x.cell(0, 1, 2);
        x.cell(1, 0, 0);
        x.shorts(0, 2, 1);
        suspectsAre(check, x, 0, 4001, 4002);
        suspectsAre(check, x, 1, 4002);
    }

    private static void inputsOfTheFirstChip(Check check) {
        ChipRing x = new ChipRing();
        x.chip(2, 256);
        x.chip(2, 256);
        x.cell(0, 0, 0);
        x.cell(0, 0, 1);
        x.cell(1, 1, 0);
        x.cell(1, 1, 1);
        check.due("sound", x.seen(0), 0);
        x.sticks(0, 0);
        check.due("stuck", x.seen(0), 1);
        suspectsAre(check, x, 0, 2000);
        x.heals();
        x.opens(0, 1);
        suspectsAre(check, x, 1, 1001, 1011, 2011);
    }
}
