import java.util.function.Supplier;

/** The boundary cases of promises 20 to 22: type, clear, does. */
public final class TextEdgesTest {
    private static final int MOST = 120;

    public static void main(String[] args) {
        Edges edges = new Edges("TextEdgesTest");
        edges.sentence(20, "c: the byte, 0 to 127; BAD if c is out of range", TextEdgesTest::typeRange);
        edges.sentence(20, "Returns how many bytes the buffer has then", TextEdgesTest::typeCounts);
        edges.sentence(20, "FULL if it has 120", TextEdgesTest::typeWhenFull);
        edges.sentence(20, "If several apply, the first: BAD, then FULL", TextEdgesTest::badTypeWhenFull);

        edges.sentence(21, "Returns how many bytes it had", TextEdgesTest::clearCounts);
        edges.sentence(21, "Empties the text buffer", TextEdgesTest::clearEmpties);

        edges.sentence(22, "also if it is empty or has only spaces", TextEdgesTest::emptyText);
        edges.sentence(22, "one or more orders", TextEdgesTest::oneOrMore);
        edges.sentence(22, "each of which ends with a semicolon", TextEdgesTest::semicolons);
        edges.sentence(22, "An order is a letter and numbers", TextEdgesTest::letters);
        edges.sentence(22, "the numbers of an order: one too few, one too many", TextEdgesTest::numbersOfOrders);
        edges.sentence(22, "A number has 1 to 3 digits; a fourth digit, too", TextEdgesTest::fourthDigit);
        edges.sentence(22, "Spaces may stand anywhere except within a number", TextEdgesTest::spaces);
        edges.sentence(22, "they are needed only where digits would be adjacent", TextEdgesTest::neededSpaces);
        edges.sentence(22, "Spaces (byte 32): no other byte stands for them", TextEdgesTest::otherBytes);
        edges.sentence(22, "the index of the first byte that cannot stand at its place", TextEdgesTest::firstFault);
        edges.sentence(22, "the number of bytes if the text ends too soon", TextEdgesTest::endsTooSoon);
        edges.sentence(22, "-10 minus the fault, at the ends of the buffer", TextEdgesTest::faultsAtTheEnds);
        edges.sentence(22, "Returns the number of orders, from 1 to 60", TextEdgesTest::numbersOfTexts);
        edges.sentence(22, "-1000 minus the number of the first order with an error", TextEdgesTest::refusedOrders);
        edges.sentence(22, "an order at the edge of its method's range", TextEdgesTest::ordersAtTheEdge);
        edges.sentence(22, "when its turn comes", TextEdgesTest::whenItsTurnComes);
        edges.sentence(22, "in both cases nothing is done, and no state is left", TextEdgesTest::nothingIsDone);
        edges.sentence(22, "The buffer stays", TextEdgesTest::bufferStays);
        edges.sentence(22, "one state for all orders together", TextEdgesTest::oneState);
        edges.sentence(22, "nothing that happens by does() is counted", TextEdgesTest::nothingIsCounted);
        edges.end();
    }

    private static ChipRing typed(String text) {
        ChipRing x = new ChipRing();
        Boards.type(x, text);
        return x;
    }

    private static ChipRing bytes(int n) {
        return typed(" ".repeat(n));
    }

    private static void fault(Check check, String text, int place) {
        ChipRing x = Boards.pair();
        Boards.type(x, text);
        long before = x.digest();
        check.due("does() of '" + text + "'", x.does(), -10 - place);
        check.due("digest after '" + text + "'", x.digest(), before);
    }

    private static void sound(Check check, String text, int orders) {
        check.due("does() of '" + text + "'", typed(text).does(), orders);
    }

    private static void refused(Check check, Supplier<ChipRing> board, String text, int order) {
        ChipRing x = board.get();
        Boards.type(x, text);
        long before = x.digest();
        check.due("does() of '" + text + "'", x.does(), -1000 - order);
        check.due("digest after '" + text + "'", x.digest(), before);
    }

    // ---- promise 20

    private static void typeRange(Check check) {
        Edges.takes(check, "type(#)", ChipRing::new, ChipRing::type, 0, 127);
        Edges.takes(check, "type(#) as the last byte", () -> bytes(MOST - 1), ChipRing::type, 0, 127);
        for (int c : new int[] {256 + 'h', 'h' - 256, 128 + 'h'}) {
            Edges.refuses(check, "type(" + c + ")", ChipRing::new, x -> x.type(c), ChipRing.BAD);
        }
    }

    private static void typeCounts(Check check) {
        ChipRing x = new ChipRing();
        for (int i = 1; i <= MOST; i++) {
            check.due("byte " + i, x.type(i % 128), i);
        }
        check.due("no act", x.told(4), 0);
    }

    private static void typeWhenFull(Check check) {
        check.due("byte 120", bytes(MOST - 1).type('h'), MOST);
        for (int c : new int[] {0, 32, 127}) {
            Edges.refuses(check, "byte 121", () -> bytes(MOST), x -> x.type(c), ChipRing.FULL);
        }
        ChipRing x = typed("h;".repeat(60));
        x.type('?');
        check.due("the text is the old one", x.does(), 60);
        ChipRing y = bytes(MOST);
        y.clear();
        check.due("room again", y.type('h'), 1);
    }

    private static void badTypeWhenFull(Check check) {
        for (int c : new int[] {-1, 128, Integer.MIN_VALUE, Integer.MAX_VALUE}) {
            Edges.refuses(check, "type(" + c + ")", () -> bytes(MOST), x -> x.type(c), ChipRing.BAD);
        }
    }

    // ---- promise 21

    private static void clearCounts(Check check) {
        for (int n : new int[] {0, 1, 2, MOST - 1, MOST}) {
            ChipRing x = bytes(n);
            check.due("clear() of " + n, x.clear(), n);
            check.due("clear() again", x.clear(), 0);
            check.due("no act", x.told(4), 0);
        }
        ChipRing y = bytes(MOST);
        y.type(0);
        check.due("clear() after a refused byte", y.clear(), MOST);
    }

    private static void clearEmpties(Check check) {
        ChipRing x = typed("h;h");
        x.clear();
        check.due("does() of nothing", x.does(), -10);
        Boards.type(x, "h");
        check.due("the old bytes are gone", x.does(), -11);
        x.type(';');
        check.due("a new text", x.does(), 1);
    }

    // ---- promise 22

    private static void emptyText(Check check) {
        for (int n : new int[] {0, 1, 2, MOST - 1, MOST}) {
            fault(check, " ".repeat(n), n);
        }
        ChipRing x = typed("h;");
        x.clear();
        check.due("a buffer that was emptied", x.does(), -10);
    }

    private static void oneOrMore(Check check) {
        sound(check, "h;", 1);
        sound(check, "h;h;", 2);
        fault(check, ";", 0);
        fault(check, " ;", 1);
        fault(check, "h;;", 2);
        fault(check, "h; ;", 3);
    }

    private static void semicolons(Check check) {
        fault(check, "h", 1);
        fault(check, "hh;", 1);
        fault(check, "h h;", 2);
        fault(check, "c2 0", 4);
        fault(check, "c2 0c2 0;", 4);
        fault(check, "c2 0 c2 0;", 5);
        fault(check, "h;h", 3);
        fault(check, "h:", 1);
        fault(check, "h,", 1);
    }

    private static void letters(Check check) {
        String[] orders = {"c2 0;", "p0 0 0;", "k0 0;", "o0 0;", "u0 0;", "s0 1 0;", "h;"};
        for (String order : orders) {
            ChipRing x = Boards.pair();
            Boards.type(x, order);
            check.due("does() of '" + order + "'", x.does(), 1);
        }
        for (int c = 0; c < 128; c++) {
            if (c != ' ' && "cpkoush".indexOf(c) < 0) {
                fault(check, (char) c + "0 0;", 0);
            }
        }
        for (char c : "CPKOUSH".toCharArray()) {
            fault(check, "h;" + c + "0 0;", 2);
        }
        fault(check, "0c2 0;", 0);
        fault(check, "c c2 0;", 2);
        fault(check, "c2 h;", 3);
    }

    private static void numbersOfOrders(Check check) {
        for (char c : "ckou".toCharArray()) {
            fault(check, c + ";", 1);
            fault(check, c + "0;", 2);
            fault(check, c + "0 ;", 3);
            fault(check, c + "0 0 0;", 5);
            fault(check, c + "0 0 0 0;", 5);
        }
        for (char c : "ps".toCharArray()) {
            fault(check, c + ";", 1);
            fault(check, c + "0;", 2);
            fault(check, c + "0 0;", 4);
            fault(check, c + "0 0 ;", 5);
            fault(check, c + "0 0 0 0;", 7);
        }
        fault(check, "h0;", 1);
        fault(check, "h 0;", 2);
    }

    private static void fourthDigit(Check check) {
        sound(check, "c2 7;", 1);
        sound(check, "c02 07;", 1);
        sound(check, "c002 007;", 1);
        fault(check, "c0002 7;", 4);
        fault(check, "c2 0007;", 6);
        fault(check, "c2 2567;", 6);
        fault(check, "p0 0 0000;", 8);
        fault(check, "p0000 0 0;", 4);
        fault(check, "h;h;k0 0000;", 10);
        fault(check, "c0000", 4);
        ChipRing x = typed("c003 100;");
        check.due("leading zeros", x.does(), 1);
        check.due("of(0, 0)", x.of(0, 0), 3);
        check.due("of(0, 1)", x.of(0, 1), 100);
        refused(check, ChipRing::new, "c2 999;", 0);
        refused(check, ChipRing::new, "c999 0;", 0);
    }

    private static void spaces(Check check) {
        sound(check, " h;", 1);
        sound(check, "h ;", 1);
        sound(check, "h; ", 1);
        sound(check, "   c   2   5   ;   h   ;   ", 2);
        sound(check, "c 2 5;", 1);
        sound(check, " ".repeat(118) + "h;", 1);
        sound(check, "h" + " ".repeat(118) + ";", 1);
        sound(check, "h;" + " ".repeat(118), 1);
        // a space ends a number: what follows is another one
        fault(check, "c2 2 5;", 5);
        fault(check, "c1 2 256;", 5);
        ChipRing x = typed("c 4  25 ;");
        check.due("does()", x.does(), 1);
        check.due("of(0, 1)", x.of(0, 1), 25);
    }

    private static void neededSpaces(Check check) {
        sound(check, "c2 5;h;c3 6;", 3);
        // 25 is one number, so that the second one is missing
        fault(check, "c25;", 3);
        fault(check, "c256;", 4);
        fault(check, "p001;", 4);
        sound(check, "c4 1;p0 1 7;k0 1;o0 0;u7 1;s7 0 1;h;", 7);
    }

    private static void otherBytes(Check check) {
        for (int c = 0; c < 128; c++) {
            boolean digit = c >= '0' && c <= '9';
            if (c != ' ' && c != ';') {
                fault(check, "c2 3" + (digit ? " " : "") + (char) c + ";", digit ? 5 : 4);
                fault(check, "h" + (char) c + ";", 1);
            }
            if (c != ' ' && !digit) {
                fault(check, "c2" + (char) c + "3;", 2);
            }
        }
        for (int c : new int[] {'0' - 1, '9' + 1}) {
            fault(check, "c" + (char) c + " 3;", 1);
            fault(check, "c2 1" + (char) c + ";", 4);
        }
    }

    private static void firstFault(Check check) {
        fault(check, "?h;?", 0);
        fault(check, "h;?;?", 2);
        fault(check, "c2 0;p0 0 0 0;?", 12);
        // the fault is found before any order is tried
        fault(check, "c9 0;?", 5);
        fault(check, "u9 9;c2", 7);
    }

    private static void endsTooSoon(Check check) {
        String text = "c2 0;p0 1 7;h;";
        for (int n = 1; n < text.length(); n++) {
            String part = text.substring(0, n);
            if (!part.endsWith(";")) {
                fault(check, part, n);
                fault(check, part + "  ", n + 2);
            }
        }
    }

    private static void faultsAtTheEnds(Check check) {
        fault(check, "?", 0);
        fault(check, "?" + " ".repeat(MOST - 1), 0);
        fault(check, " ".repeat(MOST - 1) + "?", MOST - 1);
        fault(check, " ".repeat(MOST - 1) + "h", MOST);
        fault(check, "h;".repeat(59) + "h ", MOST);
        fault(check, "h;".repeat(59) + "hh", MOST - 1);
        fault(check, "h;".repeat(59) + ";", MOST - 2);
    }

    private static void numbersOfTexts(Check check) {
        for (int n : new int[] {1, 2, 59, 60}) {
            sound(check, "h;".repeat(n), n);
        }
        sound(check, "k 1 000;".repeat(15), 15);
        sound(check, "k1 0;".repeat(24), 24);
    }

    private static void refusedOrders(Check check) {
        Supplier<ChipRing> board = Boards::pairInExtest;
        refused(check, board, "c1 0;", 0);
        refused(check, board, "h;c1 0;", 1);
        refused(check, board, "c1 0;c1 0;", 0);
        refused(check, board, "h;c1 0;h;u9 9;", 1);
        refused(check, board, "h;".repeat(57) + "u8 0;", 57);
        refused(check, board, "h;".repeat(57) + "k0 2; ", 57);
        refused(check, board, "u8 0;" + "h;".repeat(57), 0);
    }

    private static void ordersAtTheEdge(Check check) {
        Supplier<ChipRing> board = Boards::pairInExtest;
        String[] taken = {
            "c2 0;", "c4 256;", "p0 0 0;", "p1 1 7;", "k0 0;", "k1 1;", "o0 0;", "o1 1;",
            "u0 0;", "u7 1;", "s0 1 0;", "s7 6 1;", "s6 7 1;"
        };
        for (String text : taken) {
            ChipRing x = board.get();
            Boards.type(x, text);
            check.due("does() of '" + text + "'", x.does(), 1);
        }
        String[] notTaken = {
            "c1 0;", "c5 0;", "c2 257;", "p2 0 0;", "p0 2 0;", "p0 0 8;", "k2 0;", "k0 2;", "o2 0;", "o0 2;",
            "u8 0;", "u0 2;", "s8 0 0;", "s0 8 0;", "s0 1 2;", "s0 0 0;", "s7 7 1;"
        };
        for (String text : notTaken) {
            refused(check, board, text, 0);
        }
    }

    private static void whenItsTurnComes(Check check) {
        sound(check, "c2 0;p0 1 3;o0 0;", 3);
        refused(check, ChipRing::new, "p0 1 3;c2 0;", 0);
        refused(check, ChipRing::new, "c2 0;o0 0;p0 1 3;", 1);
        sound(check, "c2 0;c2 0;c2 0;c2 0;", 4);
        refused(check, ChipRing::new, "c2 0;c2 0;c2 0;c2 0;c2 0;", 4);
        sound(check, "c2 0;" + "p0 0 0;".repeat(6), 7);
        refused(check, ChipRing::new, "c2 0;" + "p0 0 0;".repeat(7), 7);
        sound(check, "u0 0;u0 0;s0 1 0;u0 0;", 4);
        refused(check, ChipRing::new, "u0 0;u0 0;s0 1 0;u0 0;s0 1 1;", 4);
        sound(check, "u0 0;u0 0;u0 0;u0 0;h;u0 0;", 6);
        // a bad order is refused also where there is no room
        refused(check, ChipRing::new, "c2 0;c2 0;c2 0;c2 0;c1 0;", 4);
    }

    private static void nothingIsDone(Check check) {
        String acts = "c3 5;p2 1 6;k0 0;u3 0;h;s0 1 0;";
        for (String end : new String[] {"?", "h", "c1 0;", "u8 0;", "p9 0 0;"}) {
            ChipRing x = Boards.pairInExtest();
            ChipRing y = Boards.pairInExtest();
            x.sticks(2, 0);
            y.sticks(2, 0);
            Boards.type(x, acts + end);
            Boards.type(y, acts + end);
            check.due("does() fails with '" + end + "'", x.does() < -9 ? 1 : 0, 1);
            check.due("digest", x.digest(), y.digest());
            for (int i = 0; i < 6; i++) {
                check.due("back()", x.back(), y.back());
                check.due("digest after back()", x.digest(), y.digest());
            }
        }
        ChipRing z = typed("c2 0;c1 0;");
        z.does();
        check.due("no state is left", z.told(4), 0);
        check.due("back()", z.back(), ChipRing.NO);
    }

    private static void bufferStays(Check check) {
        ChipRing x = typed("c2 0;");
        for (int i = 1; i <= 4; i++) {
            check.due("the same text, time " + i, x.does(), 1);
            check.due("chips", x.count(0), i);
            check.due("bytes", x.told(3), 5);
        }
        check.due("refused then", x.does(), -1000);
        check.due("bytes after it", x.told(3), 5);
        x.type('?');
        check.due("a fault at its end", x.does(), -15);
        check.due("bytes after the fault", x.told(3), 6);
        check.due("clear()", x.clear(), 6);
    }

    private static void oneState(Check check) {
        ChipRing x = typed("h;".repeat(60));
        check.due("sixty orders", x.does(), 60);
        check.due("one state", x.told(4), 1);
        check.due("back()", x.back(), 0);
        ChipRing y = typed("c2 0;p0 1 3;k0 0;u3 0;");
        y.does();
        check.due("before back()", y.count(0) + y.count(1) + y.count(2) + y.port(0), 4);
        y.back();
        check.due("after back()", y.count(0) + y.count(1) + y.count(2) + y.port(0), 0);
        check.due("bytes after back()", y.told(3), 22);
    }

    private static void nothingIsCounted(Check check) {
        String[] texts = {"", "?", "c1 0;", "c2 0;c2 0;c2 0;c2 0;c2 0;", "c2 0;" + "p0 0 0;".repeat(7),
            "u0 0;u0 0;u0 0;u0 0;u0 0;", "o0 0;", "s0 0 0;", "k2 0;"};
        for (String text : texts) {
            ChipRing x = typed(text);
            check.due("does() of '" + text + "' fails", x.does() < -9 ? 1 : 0, 1);
            check.due("errors counted", Edges.errors(x), 0);
        }
        ChipRing y = typed("c2 0;");
        y.does();
        check.due("errors counted by a text that is done", Edges.errors(y), 0);
    }
}
