import java.math.BigInteger;
import java.util.ArrayDeque;
import java.util.List;
import java.util.function.Supplier;

/** The boundary cases of promises 23 and 25, and of the paragraphs on taking back and errors. */
public final class BackEdgesTest {
    public static void main(String[] args) {
        Edges edges = new Edges("BackEdgesTest");
        edges.sentence(23, "NO if none is kept", BackEdgesTest::noneKept);
        edges.sentence(23, "At most the latest 5 states are kept", BackEdgesTest::latestFive);
        edges.sentence(23, "the places of the states are used again and again", BackEdgesTest::aroundTheRing);
        edges.sentence(23, "it is not kept any more then", BackEdgesTest::notKeptAnyMore);
        edges.sentence(23, "Each successful call of an act leaves a state", BackEdgesTest::everyActLeavesOne);
        edges.sentence(23, "also if nothing becomes different by the call", BackEdgesTest::nothingDifferent);
        edges.sentence(23, "a call that is no act leaves no state", BackEdgesTest::noActs);
        edges.sentence(23, "a refused act leaves no state", BackEdgesTest::refusedActs);
        edges.sentence(23, "everything except the text buffer", BackEdgesTest::textStays);
        edges.sentence(23, "and the counts of errors", BackEdgesTest::countsStay);
        edges.sentence(23, "A state is everything", BackEdgesTest::everythingComesBack);
        edges.sentence(23, "Returns to the state, not to another that was kept in its place", BackEdgesTest::otherStates);

        edges.sentence(0, "A call that returns an error code is counted (in any method)", BackEdgesTest::countedOnce);
        edges.sentence(0, "NONE means that there is no such thing, and is no error", BackEdgesTest::noneIsNotCounted);
        edges.sentence(0, "at most 512 calls after it has been made", BackEdgesTest::allCalls);

        edges.sentence(25, "h is 2694 at first", BackEdgesTest::digestOfNew);
        edges.sentence(25, "long arithmetic with overflow", BackEdgesTest::digestOverflows);
        edges.sentence(25, "for each of these values v, in this order", BackEdgesTest::digestOfAll);
        edges.end();
    }

    /** Chip 0 has an output, chip 1 an input at net 0; five states are kept. */
    private static ChipRing board() {
        ChipRing x = new ChipRing();
        x.chip(2, 7);
        x.chip(3, 256);
        x.cell(0, 1, 0);
        x.cell(1, 0, 0);
        x.sticks(1, 0);
        return x;
    }

    private static final Edges.Call[] ACTS = {
        x -> x.chip(2, 0), x -> x.cell(0, 0, 3), x -> x.opens(0, 0), x -> x.sticks(2, 0), x -> x.shorts(1, 2, 0),
        x -> x.heals(), x -> x.clock(0, 0), x -> x.clocks(3, 2, 0), x -> Boards.does(x, "h;k0 0;")
    };

    // ---- promise 23

    private static void noneKept(Check check) {
        Edges.refuses(check, "back() of a new object", ChipRing::new, ChipRing::back, ChipRing.NO);
        Supplier<ChipRing> emptied = () -> {
            ChipRing x = board();
            for (int i = 0; i < 5; i++) {
                x.back();
            }
            return x;
        };
        Edges.refuses(check, "the sixth back()", emptied, ChipRing::back, ChipRing.NO);
        ChipRing x = emptied.get();
        x.chip(2, 0);
        x.cell(0, 0, 0);
        check.due("back() after two acts", x.back(), 1);
        check.due("back() after one act", x.back(), 0);
        check.due("back() after none", x.back(), ChipRing.NO);
        check.due("told(1)", x.told(1), 1);
    }

    private static void latestFive(Check check) {
        for (int acts = 1; acts <= 12; acts++) {
            ChipRing x = new ChipRing();
            for (int i = 0; i < acts; i++) {
                x.clock(i % 2, 0);
            }
            int kept = Math.min(acts, 5);
            check.due("told(4) after " + acts, x.told(4), kept);
            for (int left = kept - 1; left >= 0; left--) {
                check.due("back() after " + acts, x.back(), left);
            }
            check.due("one more after " + acts, x.back(), ChipRing.NO);
        }
        ChipRing y = new ChipRing();
        y.chip(2, 1);
        for (int k = 0; k < 6; k++) {
            y.cell(0, 1, k);
        }
        for (int cells = 5; cells >= 1; cells--) {
            y.back();
            check.due("cells", y.count(1), cells);
        }
        y.back();
        check.due("the sixth is lost", y.count(1), 1);
        check.due("and the chip stays", y.count(0), 1);
    }

    private static void aroundTheRing(Check check) {
        for (int acts = 1; acts <= 7; acts++) {
            for (int takings = 1; takings <= 6; takings++) {
                rounds(check, acts, takings);
            }
        }
    }

    /** Rounds of acts and takings back; the states of the port that are kept are told by a list. */
    private static void rounds(Check check, int acts, int takings) {
        ChipRing x = new ChipRing();
        ArrayDeque<Integer> kept = new ArrayDeque<>();
        int tms = 0b1001_0110_1011_0100;
        for (int round = 0; round < 15; round++) {
            for (int i = 0; i < acts; i++) {
                kept.addLast(x.port(0));
                if (kept.size() > 5) {
                    kept.removeFirst();
                }
                tms = Integer.rotateLeft(tms, 5) * 5 + 1;
                x.clock(tms >>> 31, 0);
            }
            for (int i = 0; i < takings; i++) {
                boolean none = kept.isEmpty();
                int before = none ? x.port(0) : kept.removeLast();
                check.due("back() in round " + round, x.back(), none ? ChipRing.NO : kept.size());
                check.due("port(0) in round " + round, x.port(0), before);
            }
        }
    }

    private static void notKeptAnyMore(Check check) {
        ChipRing x = board();
        check.due("back()", x.back(), 4);
        check.due("told(4)", x.told(4), 4);
        check.due("faults", x.count(2), 0);
        check.due("back()", x.back(), 3);
        check.due("cells", x.count(1), 1);
        x.sticks(5, 0);
        check.due("another act", x.told(4), 4);
        check.due("back() to before it", x.back(), 3);
        check.due("cells then", x.count(1), 1);
        check.due("faults then", x.count(2), 0);
        check.due("back()", x.back(), 2);
        check.due("cells at last", x.count(1), 0);
    }

    private static void everyActLeavesOne(Check check) {
        for (int a = 0; a < ACTS.length; a++) {
            ChipRing x = board();
            x.back();
            check.due("told(4) before act " + a, x.told(4), 4);
            check.due("act " + a + " is done", ACTS[a].on(x) >= 0 ? 1 : 0, 1);
            check.due("told(4) after act " + a, x.told(4), 5);
            check.due("back() from act " + a, x.back(), 4);
        }
    }

    private static void nothingDifferent(Check check) {
        ChipRing x = new ChipRing();
        check.due("heals() without faults", x.heals(), 0);
        check.due("told(4)", x.told(4), 1);
        check.due("a clock in reset", x.clock(1, 0), 2);
        check.due("told(4)", x.told(4), 2);
        check.due("clocks in reset", x.clocks(5, 31, 0), 0);
        check.due("told(4)", x.told(4), 3);
        Boards.type(x, "h;k1 1;");
        check.due("does()", x.does(), 2);
        check.due("told(4)", x.told(4), 4);
        check.due("heals() again", x.heals(), 0);
        check.due("told(4)", x.told(4), 5);
        check.due("port(0)", x.port(0), 0);
        for (int left = 4; left >= 0; left--) {
            check.due("back()", x.back(), left);
        }
        for (String text : new String[] {"h;", "k1 0;"}) {
            ChipRing one = new ChipRing();
            check.due("does() of " + text, Boards.does(one, text), 1);
            check.due("told(4) after " + text, one.told(4), 1);
        }
        ChipRing y = board();
        for (int i = 0; i < 5; i++) {
            y.clock(1, 0);
        }
        for (int i = 0; i < 5; i++) {
            y.back();
        }
        check.due("five such acts push the others out", y.count(2), 1);
        check.due("and none is kept", y.back(), ChipRing.NO);
    }

    private static void noActs(Check check) {
        Edges.Call[] calls = {
            x -> x.port(4), x -> x.of(0, 0), x -> x.about(1, 0, 2), x -> x.count(3), x -> x.fault(0), x -> x.fault(3),
            x -> x.patterns(1), x -> x.pattern(0, 0, 0), x -> x.answer(0, 1, 0), x -> x.seen(1), x -> x.suspects(1, -1),
            x -> x.type(32), x -> x.clear(), x -> x.told(0), x -> (int) x.digest()
        };
        for (int i = 0; i < calls.length; i++) {
            ChipRing x = board();
            x.back();
            calls[i].on(x);
            check.due("told(4) after call " + i, x.told(4), 4);
            check.due("back() after call " + i, x.back(), 3);
            check.due("cells after call " + i, x.count(1), 1);
        }
    }

    private static void refusedActs(Check check) {
        Edges.Call[] calls = {
            x -> x.chip(1, 0), x -> x.cell(2, 0, 0), x -> x.opens(0, 1), x -> x.sticks(8, 0), x -> x.shorts(0, 0, 0),
            x -> x.clock(2, 0), x -> x.clocks(17, 0, 0), x -> Boards.does(x, "c1 0;"), x -> Boards.does(x, "h")
        };
        for (int i = 0; i < calls.length; i++) {
            ChipRing x = board();
            for (int n = 0; n < 7; n++) {
                check.due("call " + i + " fails", calls[i].on(x) < 0 ? 1 : 0, 1);
            }
            int[] cells = {2, 1, 0, 0, 0};
            int[] chips = {2, 2, 2, 1, 0};
            for (int n = 0; n < 5; n++) {
                check.due("back() after call " + i, x.back(), 4 - n);
                check.due("cells after call " + i, x.count(1), cells[n]);
                check.due("chips after call " + i, x.count(0), chips[n]);
            }
        }
    }

    private static void textStays(Check check) {
        ChipRing x = new ChipRing();
        Boards.type(x, "c2 0;");
        x.does();
        Boards.type(x, "h");
        check.due("back()", x.back(), 0);
        check.due("bytes", x.told(3), 6);
        check.due("the text ends too soon", x.does(), -16);
        x.type(';');
        check.due("the text", x.does(), 2);
        x.clear();
        check.due("back() after clear()", x.back(), 0);
        check.due("bytes after clear()", x.told(3), 0);
        check.due("no text", x.does(), -10);
    }

    private static void countsStay(Check check) {
        ChipRing x = new ChipRing();
        x.back();
        x.sticks(0, 0);
        x.sticks(0, 0);
        x.sticks(0, 0);
        x.sticks(0, 0);
        x.sticks(0, 0);
        x.sticks(9, 9);
        x.sticks(9, 9);
        check.due("back()", x.back(), 3);
        check.due("told(0)", x.told(0), 2);
        check.due("told(1)", x.told(1), 1);
        check.due("told(2)", x.told(2), 1);
    }

    private static void everythingComesBack(Check check) {
        for (int a = 0; a < ACTS.length; a++) {
            for (int state : new int[] {0, 3, 4, 8, 10, 11, 15}) {
                ChipRing x = board();
                Boards.toIdle(x);
                Boards.loadInstructions(x, 0);
                // the latch of the input is 0, and it sees 1
                Boards.scanData(x, 0b10);
                x.clocks(3, state == 0 ? 7 : 0, 0);
                Boards.toState(x, state);
                check.due("the state", x.port(0), state);
                long[] before = Boards.everything(x);
                ACTS[a].on(x);
                x.back();
                long[] after = Boards.everything(x);
                for (int i = 5; i < before.length; i++) {
                    String call = "value " + i + " after act " + a + " in state " + state;
                    check.due(call, i < after.length ? after[i] : Long.MIN_VALUE, before[i]);
                }
                check.due("values", after.length, before.length);
            }
        }
    }

    /** Boards that differ in everything take turns, so that an old copy would be seen. */
    private static void otherStates(Check check) {
        for (int filling = 0; filling < 8; filling++) {
            ChipRing x = new ChipRing();
            for (int i = 0; i < filling; i++) {
                x.heals();
            }
            for (int turn = 0; turn < 4; turn++) {
                String text = turn % 2 == 0 ? "c2 256;p0 1 3;p0 0 2;u3 1;u2 0;k0 0;" : "c4 9;p0 0 6;p0 1 7;s6 7 0;";
                Boards.does(x, text);
                long[] before = Boards.everything(x);
                x.does();
                x.back();
                long[] after = Boards.everything(x);
                for (int i = 5; i < before.length; i++) {
                    long is = i < after.length ? after[i] : Long.MIN_VALUE;
                    check.due("value " + i + " in turn " + turn, is, before[i]);
                }
                x.back();
                check.due("chips", x.count(0), 0);
                check.due("faults", x.count(2), 0);
                check.due("nets", x.count(3), 0);
            }
        }
    }

    // ---- errors

    private static void countedOnce(Check check) {
        Edges.Call[] bads = {
            x -> x.chip(1, 0), x -> x.cell(2, 0, 0), x -> x.opens(2, 0), x -> x.sticks(8, 0), x -> x.shorts(1, 1, 0),
            x -> x.clock(2, 0), x -> x.clocks(0, 0, 0), x -> x.port(5), x -> x.of(2, 0), x -> x.of(0, 8),
            x -> x.about(0, 1, 0), x -> x.about(0, 0, 3), x -> x.count(5), x -> x.fault(-1), x -> x.patterns(2),
            x -> x.pattern(0, 9, 0), x -> x.answer(0, 0, 0), x -> x.seen(2), x -> x.suspects(0, -2),
            x -> x.type(128), x -> x.told(5)
        };
        for (int i = 0; i < bads.length; i++) {
            Edges.refuses(check, "BAD number " + i, BackEdgesTest::board, bads[i], ChipRing.BAD);
        }
        ChipRing x = board();
        for (int i = 0; i < bads.length; i++) {
            bads[i].on(x);
            check.due("told(0)", x.told(0), i + 1);
        }
        check.due("told(1)", x.told(1), 0);
        check.due("told(2)", x.told(2), 0);
        // wrong in every argument, and yet one error
        ChipRing y = new ChipRing();
        y.cell(9, 9, 9);
        y.shorts(9, 9, 9);
        y.clocks(99, -1, -1);
        y.about(9, 9, 9);
        y.pattern(9, 9, 9);
        y.answer(9, 9, 9);
        check.due("one for each call", y.told(0), 6);
    }

    private static void noneIsNotCounted(Check check) {
        ChipRing x = board();
        check.due("fault(1)", x.fault(1), ChipRing.NONE);
        check.due("pattern(0, 0, 5)", x.pattern(0, 0, 5), ChipRing.NONE);
        check.due("suspects(0, 1000)", x.suspects(0, 1000), -5);
        check.due("errors", Edges.errors(x), 0);
    }

    private static void allCalls(Check check) {
        ChipRing x = new ChipRing();
        for (int i = 0; i < 511; i++) {
            x.told(-1);
        }
        check.due("call 512 after BADs", x.told(0), 511);
        ChipRing y = new ChipRing();
        for (int i = 0; i < 509; i++) {
            y.clock(i == 0 ? 0 : 1 - i % 2, 1);
        }
        check.due("call 510 after acts", y.told(4), 5);
        check.due("call 511", y.back(), 4);
        check.due("call 512", y.back(), 3);
        ChipRing z = board();
        for (int i = 5; i < 511; i++) {
            z.suspects(1, -1);
        }
        check.due("call 512 after suspects", z.suspects(0, ChipRing.NONE), 1);
    }

    // ---- promise 25

    private static void digestOfNew(Check check) {
        long[] fresh = {0, 0, 0, 0, 0, 0, 0, 0, 0, 0, 0, 0, 0, 0, 255, 1, 0, 0, 1, 1};
        check.due("digest()", new ChipRing().digest(), Boards.digestOf(fresh));
        ChipRing x = new ChipRing();
        x.digest();
        check.due("digest() again", x.digest(), Boards.digestOf(fresh));
    }

    private static void digestOverflows(Check check) {
        for (Supplier<ChipRing> board : List.<Supplier<ChipRing>>of(ChipRing::new, BackEdgesTest::board)) {
            BigInteger h = BigInteger.valueOf(2694);
            for (long v : Boards.everything(board.get())) {
                h = h.multiply(BigInteger.valueOf(31)).add(BigInteger.valueOf(v));
            }
            check.due("the sum is beyond a long", h.bitLength() > 64 ? 1 : 0, 1);
            check.due("digest()", board.get().digest(), h.longValue());
        }
    }

    private static void digestOfAll(Check check) {
        ChipRing x = board();
        x.type('h');
        x.told(5);
        x.told(5);
        long[] due = {
            2, 0, 0, 1, 5,
            2, 2, 1, 1, 1,
            0, 9, 5, 0, 253,
            2, 7, 1, 2, 8, 0, 0, 0, 1, 0, 0,
            3, 256, 1, 7, 1, 0, 0, 0, 0, 0, 1,
            2010,
            2, 0, 0, 1, 1
        };
        check.due("digest()", x.digest(), Boards.digestOf(due));
        ChipRing y = Boards.pairInExtest();
        Boards.scanData(y, 0b10_01);
        y.opens(1, 0);
        y.shorts(0, 1, 1);
        y.sticks(7, 0);
        y.sticks(7, 1);
        y.sticks(7, 1);
        check.due("digest() by the methods", y.digest(), Boards.digestOf(Boards.everything(y)));
        digestOfTests(check);
    }

    /** An OR of the codes 1 and 3 is seen at the code 3 by test 1 alone. */
    private static void digestOfTests(Check check) {
        ChipRing x = new ChipRing();
        x.chip(2, 256);
        x.cell(0, 1, 0);
        x.cell(0, 1, 1);
        x.cell(0, 1, 2);
        x.cell(0, 0, 2);
        x.shorts(0, 2, 1);
        long[] due = {
            0, 0, 0, 0, 5,
            1, 4, 1, 7, 7,
            0, 1, 2, 0, 255,
            2, 256, 4, 3, 1, 0, 0, 0, 1, 0, 0, 1, 1, 0, 1, 2, 0, 0, 2, 1,
            4002,
            3, 0, 1, 11, 1
        };
        check.due("digest() with tests that differ", x.digest(), Boards.digestOf(due));
    }
}
