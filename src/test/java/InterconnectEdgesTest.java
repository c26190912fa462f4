import java.util.function.Supplier;

/** The boundary cases of promises 15 to 19: patterns, pattern, answer, seen, suspects. */
public final class InterconnectEdgesTest {
    /** The bits of a code, for 0 to 8 nets with an output. */
    private static final int[] CODE_BITS = {1, 2, 2, 3, 3, 3, 3, 4, 4};
    private static final int NO_SUCH_SUSPECT = -5;

    public static void main(String[] args) {
        Edges edges = new Edges("InterconnectEdgesTest");
        edges.sentence(15, "BAD if t is out of range", InterconnectEdgesTest::patternsTest);
        edges.sentence(15, "the smallest number, at least 1", InterconnectEdgesTest::atLeastOne);
        edges.sentence(15, "2 to the power of b not less than m + 2", InterconnectEdgesTest::codeBits);
        edges.sentence(15, "the number of nets that have an output", InterconnectEdgesTest::netsNotOutputs);

        edges.sentence(16, "BAD if t is out of range", InterconnectEdgesTest::patternTest);
        edges.sentence(16, "BAD if there is no such pattern", InterconnectEdgesTest::noSuchPattern);
        edges.sentence(16, "BAD if n is out of range", InterconnectEdgesTest::patternNet);
        edges.sentence(16, "NONE if the net has no output", InterconnectEdgesTest::noOutput);
        edges.sentence(16, "NONE is returned only if no error code applies", InterconnectEdgesTest::badBeforeNone);
        edges.sentence(16, "in ascending order, have the codes 1 to m", InterconnectEdgesTest::codes);
        edges.sentence(16, "the same with all these bits inverted", InterconnectEdgesTest::inverted);

        edges.sentence(17, "BAD if t is out of range", InterconnectEdgesTest::answerTest);
        edges.sentence(17, "BAD if there is no such chip or cell", InterconnectEdgesTest::answerOfNoCell);
        edges.sentence(17, "BAD if the cell is an output", InterconnectEdgesTest::answerOfOutput);
        edges.sentence(17, "the number whose bit i is what it sees in pattern i", InterconnectEdgesTest::answerBits);
        edges.sentence(17, "with the present faults, shorts before stuck nets", InterconnectEdgesTest::faultsInOrder);
        edges.sentence(17, "as if their instruction were EXTEST", InterconnectEdgesTest::anyInstruction);
        edges.sentence(17, "The real latches, registers and the port are not changed", InterconnectEdgesTest::unchanged);

        edges.sentence(18, "BAD if t is out of range", InterconnectEdgesTest::seenTest);
        edges.sentence(18, "1 if some answer is different, else 0", InterconnectEdgesTest::someAnswer);

        edges.sentence(19, "BAD if t is out of range", InterconnectEdgesTest::suspectsTest);
        edges.sentence(19, "BAD if i is less than -1", InterconnectEdgesTest::lessThanNone);
        edges.sentence(19, "-5 if there are not so many suspects", InterconnectEdgesTest::notSoMany);
        edges.sentence(19, "0 for no fault", InterconnectEdgesTest::noFault);
        edges.sentence(19, "of open cells (each cell that exists)", InterconnectEdgesTest::openCells);
        edges.sentence(19, "of stuck nets (each net that has a cell, each value)", InterconnectEdgesTest::stuckNets);
        edges.sentence(19, "of shorts (each two nets that have cells)", InterconnectEdgesTest::shortNets);
        edges.sentence(19, "if it were the only fault", InterconnectEdgesTest::onlyFault);
        edges.sentence(19, "all answers of all inputs would be as they are", InterconnectEdgesTest::allAnswers);
        edges.end();
    }

    /** Chips 0 and 1 have an output at each of the nets 0 to m - 1, chip 2 an input at net 0, chip 3 no cell. */
    private static ChipRing outputs(int m) {
        ChipRing x = new ChipRing();
        for (int c = 0; c < 4; c++) {
            x.chip(2, 256);
        }
        for (int n = 0; n < m; n++) {
            x.cell(n / 4, 1, n);
        }
        x.cell(2, 0, 0);
        return x;
    }

    private static void takesTests(Check check, String call, Supplier<ChipRing> board, Edges.CallWith made) {
        Edges.takes(check, call, board, made, 0, 1);
    }

    // ---- promise 15

    private static void patternsTest(Check check) {
        takesTests(check, "patterns(#)", ChipRing::new, ChipRing::patterns);
        takesTests(check, "patterns(#) of a board", () -> outputs(8), ChipRing::patterns);
    }

    private static void atLeastOne(Check check) {
        ChipRing x = new ChipRing();
        check.due("patterns(0) of a new object", x.patterns(0), 1);
        check.due("patterns(1) of a new object", x.patterns(1), 2);
        check.due("patterns(0) without outputs", outputs(0).patterns(0), 1);
        check.due("patterns(1) without outputs", outputs(0).patterns(1), 2);
        check.due("patterns(0) with one output", outputs(1).patterns(0), 2);
    }

    private static void codeBits(Check check) {
        for (int m = 0; m <= 8; m++) {
            check.due("patterns(0) for " + m + " nets", outputs(m).patterns(0), CODE_BITS[m]);
            check.due("patterns(1) for " + m + " nets", outputs(m).patterns(1), 2 * CODE_BITS[m]);
        }
    }

    private static void netsNotOutputs(Check check) {
        ChipRing x = new ChipRing();
        x.chip(2, 256);
        for (int k = 0; k < 6; k++) {
            x.cell(0, 1, 5);
            check.due("outputs at one net", x.patterns(0), 2);
        }
        ChipRing y = outputs(2);
        y.cell(3, 0, 4);
        y.cell(3, 0, 5);
        check.due("nets with inputs alone", y.patterns(0), 2);
        y.opens(0, 0);
        y.sticks(1, 0);
        check.due("faults make no difference", y.patterns(0), 2);
        y.cell(3, 1, 4);
        check.due("a third net", y.patterns(0), 3);
        y.back();
        check.due("taken back", y.patterns(0), 2);
    }

    // ---- promise 16

    private static void patternTest(Check check) {
        takesTests(check, "pattern(#, 0, 0)", () -> outputs(1), (x, t) -> x.pattern(t, 0, 0));
        takesTests(check, "pattern(#, 3, 7)", () -> outputs(8), (x, t) -> x.pattern(t, 3, 7));
    }

    private static void noSuchPattern(Check check) {
        for (int m = 1; m <= 8; m++) {
            int nets = m;
            for (int t = 0; t < 2; t++) {
                int test = t;
                int last = (CODE_BITS[m] << t) - 1;
                String call = "pattern(" + t + ", #, 0) for " + m + " nets";
                Edges.takes(check, call, () -> outputs(nets), (x, i) -> x.pattern(test, i, 0), 0, last);
            }
        }
        for (int i : new int[] {31, 32, 64}) {
            Edges.refuses(check, "pattern(0, " + i + ", 0)", () -> outputs(2), x -> x.pattern(0, i, 0), ChipRing.BAD);
        }
    }

    private static void patternNet(Check check) {
        Edges.takes(check, "pattern(0, 0, #)", () -> outputs(8), (x, n) -> x.pattern(0, 0, n), 0, 7);
        Edges.takes(check, "pattern(1, 7, #)", () -> outputs(8), (x, n) -> x.pattern(1, 7, n), 0, 7);
        Edges.takes(check, "pattern(0, 0, #) without outputs", ChipRing::new, (x, n) -> x.pattern(0, 0, n), 0, 7);
    }

    private static void noOutput(Check check) {
        for (int m = 0; m <= 8; m++) {
            ChipRing x = outputs(m);
            x.cell(3, 0, 7);
            long before = x.digest();
            for (int n = 0; n < 8; n++) {
                boolean none = x.pattern(0, 0, n) == ChipRing.NONE;
                check.due("NONE for net " + n + " of " + m, none ? 1 : 0, n >= m ? 1 : 0);
            }
            check.due("nothing is counted", x.digest(), before);
        }
        ChipRing x = outputs(3);
        x.cell(3, 1, 7);
        x.back();
        check.due("an output that was taken back", x.pattern(0, 0, 7), ChipRing.NONE);
    }

    private static void badBeforeNone(Check check) {
        // m = 0: one pattern in test 0, two in test 1
        for (int i : new int[] {-1, 1}) {
            Edges.refuses(check, "pattern(0, " + i + ", 3)", ChipRing::new, x -> x.pattern(0, i, 3), ChipRing.BAD);
        }
        for (int i : new int[] {-1, 2}) {
            Edges.refuses(check, "pattern(1, " + i + ", 3)", ChipRing::new, x -> x.pattern(1, i, 3), ChipRing.BAD);
        }
        for (int t : new int[] {-1, 2}) {
            Edges.refuses(check, "pattern(" + t + ", 0, 3)", ChipRing::new, x -> x.pattern(t, 0, 3), ChipRing.BAD);
        }
        ChipRing x = new ChipRing();
        check.due("pattern(0, 0, 3)", x.pattern(0, 0, 3), ChipRing.NONE);
        check.due("pattern(1, 1, 3)", x.pattern(1, 1, 3), ChipRing.NONE);
    }

    private static void codes(Check check) {
        for (int m = 1; m <= 8; m++) {
            ChipRing x = outputs(m);
            for (int n = 0; n < m; n++) {
                for (int i = 0; i < CODE_BITS[m]; i++) {
                    check.due("pattern(0, " + i + ", " + n + ") of " + m, x.pattern(0, i, n), n + 1 >> i & 1);
                }
            }
        }
        ChipRing y = new ChipRing();
        y.chip(2, 256);
        y.cell(0, 1, 7);
        y.cell(0, 0, 3);
        y.cell(0, 1, 0);
        y.cell(0, 1, 4);
        int[] nets = {0, 4, 7};
        for (int code = 1; code <= 3; code++) {
            for (int i = 0; i < 3; i++) {
                check.due("pattern " + i + " of code " + code, y.pattern(0, i, nets[code - 1]), code >> i & 1);
            }
        }
    }

    private static void inverted(Check check) {
        for (int m = 1; m <= 8; m++) {
            ChipRing x = outputs(m);
            int b = CODE_BITS[m];
            for (int n = 0; n < m; n++) {
                for (int i = 0; i < b; i++) {
                    int bit = n + 1 >> i & 1;
                    check.due("pattern(1, " + i + ", " + n + ") of " + m, x.pattern(1, i, n), bit);
                    check.due("pattern(1, " + (b + i) + ", " + n + ") of " + m, x.pattern(1, b + i, n), 1 - bit);
                }
            }
        }
    }

    // ---- promise 17

    private static void answerTest(Check check) {
        takesTests(check, "answer(#, 2, 0)", () -> outputs(0), (x, t) -> x.answer(t, 2, 0));
        takesTests(check, "answer(#, 2, 0) of 8", () -> outputs(8), (x, t) -> x.answer(t, 2, 0));
    }

    private static void answerOfNoCell(Check check) {
        Edges.refuses(check, "answer(0, 0, 0) without chips", ChipRing::new, x -> x.answer(0, 0, 0), ChipRing.BAD);
        Edges.refuses(check, "answer(0, 3, 0) without cells", () -> outputs(2), x -> x.answer(0, 3, 0), ChipRing.BAD);
        Supplier<ChipRing> inputs = () -> {
            ChipRing x = new ChipRing();
            for (int c = 0; c < 4; c++) {
                x.chip(2, 256);
                x.cell(c, 0, c);
            }
            for (int k = 1; k < 6; k++) {
                x.cell(3, 0, k);
            }
            return x;
        };
        Edges.takes(check, "answer(0, #, 0)", inputs, (x, c) -> x.answer(0, c, 0), 0, 3);
        Edges.takes(check, "answer(1, 3, #)", inputs, (x, k) -> x.answer(1, 3, k), 0, 5);
        Edges.takes(check, "answer(1, 0, #)", inputs, (x, k) -> x.answer(1, 0, k), 0, 0);
    }

    private static void answerOfOutput(Check check) {
        for (int t = 0; t < 2; t++) {
            int test = t;
            for (int k = 0; k < 4; k++) {
                int cell = k;
                String call = "answer(" + t + ", 1, " + k + ")";
                Edges.refuses(check, call, () -> outputs(8), x -> x.answer(test, 1, cell), ChipRing.BAD);
            }
        }
        check.due("the input", outputs(8).answer(0, 2, 0), 1);
    }

    private static void answerBits(Check check) {
        for (int m = 0; m <= 8; m++) {
            ChipRing x = outputs(m);
            int b = CODE_BITS[m];
            int ones = (1 << b) - 1;
            int first = m == 0 ? ones : 1;
            check.due("answer(0, 2, 0) for " + m, x.answer(0, 2, 0), first);
            check.due("answer(1, 2, 0) for " + m, x.answer(1, 2, 0), m == 0 ? 3 : 1 | (ones - 1) << b);
            x.sticks(0, 0);
            check.due("stuck at 0", x.answer(1, 2, 0), 0);
            x.sticks(0, 1);
            check.due("stuck at 1", x.answer(1, 2, 0), (1 << 2 * b) - 1);
            check.due("stuck at 1, test 0", x.answer(0, 2, 0), ones);
            x.heals();
            x.sticks(0, 0);
            x.opens(2, 0);
            check.due("open", x.answer(1, 2, 0), (1 << 2 * b) - 1);
        }
        ChipRing y = outputs(8);
        y.cell(2, 0, 7);
        check.due("the largest code", y.answer(0, 2, 1), 8);
        check.due("the largest code in test 1", y.answer(1, 2, 1), 0b0111_1000);
    }

    private static void faultsInOrder(Check check) {
        ChipRing x = outputs(3);
        x.cell(2, 0, 1);
        x.sticks(1, 0);
        x.shorts(0, 1, 1);
        check.due("the OR does not see the stuck net", x.answer(1, 2, 0), 0b111_011);
        check.due("the stuck net", x.answer(1, 2, 1), 0);
        x.sticks(1, 1);
        check.due("the latest stuck one holds", x.answer(1, 2, 1), 0b111_111);
        ChipRing y = outputs(3);
        y.shorts(0, 1, 0);
        y.shorts(0, 2, 1);
        check.due("AND with the code 2, then OR with the code 3", y.answer(0, 2, 0), 0b011);
        y.heals();
        y.shorts(0, 2, 1);
        y.shorts(0, 1, 0);
        check.due("OR with the code 3, then AND with the code 2", y.answer(0, 2, 0), 0b010);
    }

    private static void anyInstruction(Check check) {
        ChipRing x = outputs(3);
        check.due("all chips in BYPASS", x.answer(1, 2, 0), 0b110_001);
        Boards.toIdle(x);
        Boards.loadInstructions(x, 0b01_01_01_01);
        check.due("all chips in SAMPLE", x.answer(1, 2, 0), 0b110_001);
        Boards.loadInstructions(x, 0);
        check.due("all chips in EXTEST", x.answer(1, 2, 0), 0b110_001);
        Boards.scanData(x, -1);
        check.due("other latches", x.answer(1, 2, 0), 0b110_001);
    }

    private static void unchanged(Check check) {
        ChipRing x = outputs(3);
        Boards.toIdle(x);
        Boards.loadInstructions(x, 0);
        Boards.scanData(x, 0b101_0_0_0);
        x.shorts(0, 1, 1);
        long before = x.digest();
        for (int t = 0; t < 2; t++) {
            x.patterns(t);
            x.pattern(t, 0, 0);
            x.answer(t, 2, 0);
            x.seen(t);
            x.suspects(t, ChipRing.NONE);
            x.suspects(t, 0);
            check.due("digest after test " + t, x.digest(), before);
        }
        check.due("latches", x.of(0, 7), 0b101);
        check.due("port(4)", x.port(4), 255);
        check.due("about(2, 0, 2)", x.about(2, 0, 2), 1);
    }

    // ---- promise 18

    private static void seenTest(Check check) {
        takesTests(check, "seen(#)", ChipRing::new, ChipRing::seen);
        takesTests(check, "seen(#) of a board", () -> outputs(8), ChipRing::seen);
    }

    private static void someAnswer(Check check) {
        check.due("a new object", new ChipRing().seen(0) + new ChipRing().seen(1), 0);
        ChipRing x = outputs(8);
        check.due("no fault, test 0", x.seen(0), 0);
        check.due("no fault, test 1", x.seen(1), 0);
        x.sticks(7, 0);
        check.due("a fault that no input sees", x.seen(1), 0);
        x.cell(2, 0, 7);
        check.due("the last input sees it, test 0", x.seen(0), 1);
        check.due("the last input sees it, test 1", x.seen(1), 1);
        ChipRing y = new ChipRing();
        y.chip(2, 256);
        y.cell(0, 1, 0);
        y.sticks(0, 0);
        check.due("a board without inputs", y.seen(1), 0);
        // the code 1 of net 0 is 1 in pattern 0 alone; OR with net 2 (code 3) adds pattern 1 alone
        ChipRing z = outputs(3);
        z.shorts(0, 2, 1);
        check.due("one bit of one answer", z.answer(0, 2, 0), 3);
        check.due("it is seen", z.seen(0), 1);
        ChipRing w = new ChipRing();
        w.chip(2, 256);
        for (int n = 0; n < 3; n++) {
            w.cell(0, 1, n);
        }
        w.cell(0, 0, 2);
        w.shorts(0, 2, 1);
        check.due("by test 1 alone: test 0", w.seen(0), 0);
        check.due("by test 1 alone: test 1", w.seen(1), 1);
        w.heals();
        check.due("healed", w.seen(1), 0);
    }

    // ---- promise 19

    private static void suspectsTest(Check check) {
        takesTests(check, "suspects(#, -1)", ChipRing::new, (x, t) -> x.suspects(t, ChipRing.NONE));
        takesTests(check, "suspects(#, 0)", () -> outputs(2), (x, t) -> x.suspects(t, 0));
        Edges.refuses(check, "suspects(2, 1000)", ChipRing::new, x -> x.suspects(2, 1000), ChipRing.BAD);
    }

    private static void lessThanNone(Check check) {
        for (int i : new int[] {-2, -3, -5, Integer.MIN_VALUE}) {
            Edges.refuses(check, "suspects(0, " + i + ")", ChipRing::new, x -> x.suspects(0, i), ChipRing.BAD);
            Edges.refuses(check, "suspects(1, " + i + ")", () -> outputs(3), x -> x.suspects(1, i), ChipRing.BAD);
        }
        check.due("suspects(0, -1)", new ChipRing().suspects(0, -1), 1);
        check.due("suspects(0, 0)", new ChipRing().suspects(0, 0), 0);
    }

    private static void notSoMany(Check check) {
        for (int t = 0; t < 2; t++) {
            ChipRing x = outputs(3);
            long before = x.digest();
            int n = x.suspects(t, ChipRing.NONE);
            check.due("the last one", x.suspects(t, n - 1), 4012);
            for (int i : new int[] {n, n + 1, 96, 97, 98, 1000, Integer.MAX_VALUE}) {
                check.due("suspects(" + t + ", " + i + ") of " + n, x.suspects(t, i), NO_SUCH_SUSPECT);
            }
            check.due("nothing is counted", x.digest(), before);
        }
        ChipRing y = new ChipRing();
        check.due("a new object has one", y.suspects(0, 1), NO_SUCH_SUSPECT);
        ChipRing none = outputs(3);
        none.cell(2, 0, 1);
        none.sticks(0, 0);
        none.sticks(1, 0);
        check.due("no suspect at all", none.suspects(1, ChipRing.NONE), 0);
        check.due("and so no first one", none.suspects(1, 0), NO_SUCH_SUSPECT);
    }

    private static void suspectsAre(Check check, ChipRing x, int t, int... due) {
        check.due("suspects(" + t + ", NONE)", x.suspects(t, ChipRing.NONE), due.length);
        for (int i = 0; i < due.length; i++) {
            check.due("suspects(" + t + ", " + i + ")", x.suspects(t, i), due[i]);
        }
        check.due("one more", x.suspects(t, due.length), NO_SUCH_SUSPECT);
    }

    private static void noFault(Check check) {
        suspectsAre(check, new ChipRing(), 0, 0);
        suspectsAre(check, new ChipRing(), 1, 0);
        ChipRing x = new ChipRing();
        x.sticks(0, 0);
        suspectsAre(check, x, 0, 0);
        ChipRing y = Boards.pair();
        suspectsAre(check, y, 0, 0);
        y.sticks(0, 0);
        suspectsAre(check, y, 0, 2000);
    }

    /** Without inputs every single fault explains the answers. */
    private static void openCells(Check check) {
        ChipRing x = new ChipRing();
        x.chip(2, 256);
        suspectsAre(check, x, 1, 0);
        x.chip(2, 256);
        x.cell(1, 1, 3);
        suspectsAre(check, x, 1, 0, 1010, 2030, 2031);
        x.cell(1, 1, 3);
        x.cell(0, 1, 3);
        suspectsAre(check, x, 1, 0, 1000, 1010, 1011, 2030, 2031);
        x.back();
        suspectsAre(check, x, 0, 0, 1010, 1011, 2030, 2031);
        ChipRing full = fullOfOutputs();
        check.due("the first cell", full.suspects(0, 1), 1000);
        check.due("the last cell", full.suspects(0, 24), 1035);
        check.due("what follows", full.suspects(0, 25), 2000);
    }

    private static ChipRing fullOfOutputs() {
        ChipRing x = new ChipRing();
        for (int c = 0; c < 4; c++) {
            x.chip(2, 256);
            for (int k = 0; k < 6; k++) {
                x.cell(c, 1, (6 * c + k) % 8);
            }
        }
        return x;
    }

    private static void stuckNets(Check check) {
        ChipRing x = new ChipRing();
        x.chip(2, 256);
        x.cell(0, 0, 0);
        // a net with an input alone is 1, as if it were stuck at 1
        suspectsAre(check, x, 0, 0, 1000, 2001);
        x.sticks(0, 0);
        suspectsAre(check, x, 0, 2000);
        x.sticks(7, 0);
        suspectsAre(check, x, 1, 2000);
        ChipRing full = fullOfOutputs();
        check.due("the first net at 0", full.suspects(1, 25), 2000);
        check.due("the first net at 1", full.suspects(1, 26), 2001);
        check.due("the last net at 1", full.suspects(1, 40), 2071);
        check.due("what follows", full.suspects(1, 41), 3001);
    }

    private static void shortNets(Check check) {
        ChipRing x = new ChipRing();
        x.chip(2, 256);
        x.cell(0, 1, 0);
        x.cell(0, 1, 7);
        suspectsAre(check, x, 0, 0, 1000, 1001, 2000, 2001, 2070, 2071, 3007, 4007);
        x.cell(0, 1, 4);
        suspectsAre(check, x, 0, 0, 1000, 1001, 1002, 2000, 2001, 2040, 2041, 2070, 2071,
            3004, 3007, 3047, 4004, 4007, 4047);
        ChipRing full = fullOfOutputs();
        check.due("the first AND", full.suspects(1, 41), 3001);
        check.due("the last AND", full.suspects(1, 68), 3067);
        check.due("the first OR", full.suspects(1, 69), 4001);
        check.due("the last OR", full.suspects(1, 96), 4067);
        check.due("the most suspects", full.suspects(1, ChipRing.NONE), 97);
        check.due("none after it", full.suspects(1, 97), NO_SUCH_SUSPECT);
        // a net with an input alone is 1: an AND with it shows at the input
        ChipRing y = new ChipRing();
        y.chip(2, 256);
        y.cell(0, 1, 2);
        y.cell(0, 0, 6);
        y.shorts(6, 2, 0);
        suspectsAre(check, y, 1, 3026);
    }

    private static void onlyFault(Check check) {
        ChipRing x = outputs(3);
        x.opens(0, 0);
        x.sticks(0, 0);
        suspectsAre(check, x, 1, 2000);
        ChipRing y = outputs(2);
        y.cell(2, 0, 1);
        y.shorts(0, 1, 1);
        check.due("an OR shows", y.seen(1), 1);
        suspectsAre(check, y, 1, 4001);
        y.shorts(0, 1, 0);
        suspectsAre(check, y, 1, 4001);
    }

    private static void allAnswers(Check check) {
        ChipRing x = outputs(2);
        x.cell(2, 0, 1);
        x.cell(3, 0, 1);
        x.opens(3, 0);
        suspectsAre(check, x, 1, 1030);
        x.opens(2, 1);
        suspectsAre(check, x, 1, 1001, 2011);
        x.opens(2, 0);
        // the codes 01 and 10 and their complements: an OR of them is always 1
        suspectsAre(check, x, 1, 4001);
        x.heals();
        x.opens(3, 0);
        x.opens(2, 0);
        suspectsAre(check, x, 1);
    }
}
