/** Promises 20 to 22: type, clear, does. */
public final class TextTest {
    public static void main(String[] args) {
        Check check = new Check("TextTest");
        typing(check);
        faultsOfTexts(check);
        soundTexts(check);
        orders(check);
        refusedOrders(check);
        oneAct(check);
        nothingIsCounted(check);
        check.end();
    }

    private static void typing(Check check) {
        ChipRing x = new ChipRing();
        for (int c : new int[] {-1, 128, Integer.MIN_VALUE, Integer.MAX_VALUE}) {
            check.refused(x, "type(" + c + ")", () -> x.type(c), ChipRing.BAD);
        }
        check.due("type(0)", x.type(0), 1);
        check.due("type(127)", x.type(127), 2);
        for (int i = 3; i <= 120; i++) {
            check.due("byte " + i, x.type(32), i);
        }
        check.refused(x, "type into a full buffer", () -> x.type(32), ChipRing.FULL);
        check.refused(x, "type badly into a full buffer", () -> x.type(128), ChipRing.BAD);
        check.due("told(3)", x.told(3), 120);
        check.due("clear()", x.clear(), 120);
        check.due("clear() again", x.clear(), 0);
        check.due("told(3) then", x.told(3), 0);
        check.due("typing and clearing are no acts", x.told(4), 0);
        check.due("type after clear()", x.type(104), 1);
    }

    private static void fault(Check check, String text, int place) {
        ChipRing x = new ChipRing();
        x.chip(2, 256);
        x.cell(0, 1, 0);
        Boards.type(x, text);
        long before = x.digest();
        check.due("does() of '" + text + "'", x.does(), -10 - place);
        check.due("nothing is done by '" + text + "'", x.digest(), before);
    }

    private static void faultsOfTexts(Check check) {
        fault(check, "", 0);
        fault(check, "   ", 3);
        fault(check, ";", 0);
        fault(check, "h", 1);
        fault(check, "h ", 2);
        fault(check, "h;;", 2);
        fault(check, "h1;", 1);
        fault(check, "hh;", 1);
        fault(check, "h;h", 3);
        fault(check, "h;x", 2);
        fault(check, "H;", 0);
        fault(check, "c;", 1);
        fault(check, "c2;", 2);
        fault(check, "c2 ;", 3);
        fault(check, "c2 256", 6);
        fault(check, "c2 2569;", 6);
        fault(check, "c0002 0;", 4);
        fault(check, "c2 25 6;", 6);
        fault(check, "c2 256 1;", 7);
        fault(check, "c2,256;", 2);
        fault(check, "c-2 256;", 1);
        fault(check, "c2 256\n;", 6);
        fault(check, "\u0000h;", 0);
        fault(check, "h;\u007f", 2);
        fault(check, "p0 0;", 4);
        fault(check, "p0 0 0 0;", 7);
        fault(check, "s0 1;", 4);
        fault(check, "s0 1 0 1", 7);
        fault(check, "k0;", 2);
        fault(check, "o0;", 2);
        fault(check, "u0;", 2);
        fault(check, "k 0 0 0;", 6);
        fault(check, "o 0 0 0;", 6);
        fault(check, "u 0 0 0;", 6);
        fault(check, "k0 1k0 1;", 4);
        fault(check, "2 c 2;", 0);
        fault(check, "c99 0;c", 7);
        fault(check, "c 2 c;", 4);
    }

    private static void sound(Check check, String text, int orders) {
        check.due("does() of '" + text + "'", Boards.does(new ChipRing(), text), orders);
    }

    private static void soundTexts(Check check) {
        sound(check, "h;", 1);
        sound(check, "  h  ;  ", 1);
        sound(check, "h;h;h;", 3);
        sound(check, "c2 256;", 1);
        sound(check, " c  002   007 ;h ;", 2);
        sound(check, "c2 0;p0 1 7;k0 1;o0 0;u7 1;s7 0 1;h;", 7);
        sound(check, "h;".repeat(60), 60);
        sound(check, "k 1 000;".repeat(15), 15);
    }

    private static void orders(Check check) {
        String[] texts = {"c3 17;", "p0 1 4;", "p0 0 5;", "k0 1;", "o0 1;", "u6 1;", "s7 2 0;", "s1 2 1;"};
        ChipRing x = new ChipRing();
        ChipRing y = new ChipRing();
        y.chip(3, 17);
        y.cell(0, 1, 4);
        y.cell(0, 0, 5);
        y.clock(0, 1);
        y.opens(0, 1);
        y.sticks(6, 1);
        y.shorts(7, 2, 0);
        y.shorts(1, 2, 1);
        for (String text : texts) {
            check.due("does() of '" + text + "'", Boards.does(x, text), 1);
        }
        Boards.type(y, texts[texts.length - 1]);
        check.due("orders as methods", x.digest(), y.digest());
        check.due("the buffer stays", x.told(3), 7);
        check.due("heal", Boards.does(x, "h;"), 1);
        check.due("no faults", x.count(2), 0);
        check.due("the same text again", x.does(), 1);
        y.heals();
        // idle to shift IR, one bit, pause
        check.due("clocks", Boards.does(x, "k1 0;k1 0;k0 0;k0 0;k1 1;k0 0;"), 6);
        check.due("the port", x.port(0), 13);
        check.due("the instruction register", x.of(0, 5), 4);
    }

    private static void refusal(Check check, ChipRing x, String text, int order) {
        x.clear();
        Boards.type(x, text);
        long before = x.digest();
        check.due("does() of '" + text + "'", x.does(), -1000 - order);
        check.due("nothing is done by '" + text + "'", x.digest(), before);
    }

    private static void refusedOrders(Check check) {
        ChipRing x = Boards.pairInExtest();
        refusal(check, x, "c1 0;", 0);
        refusal(check, x, "c2 257;", 0);
        refusal(check, x, "h;c2 999;", 1);
        refusal(check, x, "p2 0 0;", 0);
        refusal(check, x, "c2 0;p2 0 0;p3 0 0;", 2);
        refusal(check, x, "k1 0;k2 0;", 1);
        refusal(check, x, "k0 2;", 0);
        refusal(check, x, "o0 2;", 0);
        refusal(check, x, "u0 2;", 0);
        refusal(check, x, "u8 0;", 0);
        refusal(check, x, "s1 1 0;", 0);
        refusal(check, x, "s0 1 2;", 0);
        refusal(check, x, "c2 0;c2 0;c2 0;", 2);
        refusal(check, x, "p0 0 0;p0 0 0;p0 0 0;p0 0 0;p0 0 0;", 4);
        refusal(check, x, "u0 0;u0 0;u0 0;o0 0;s0 1 0;", 4);
        refusal(check, x, "u0 0;u0 0;u0 0;u0 0;o0 0;", 4);
        refusal(check, x, "h;".repeat(57) + "u9 1;", 57);
        check.due("a text fault comes first", Boards.does(x, "c1 0;c2"), -17);
        check.due("room after a heal", Boards.does(x, "u0 0;u0 0;u0 0;u0 0;h;u0 0;"), 6);
        check.due("one fault", x.count(2), 1);
    }

    private static void oneAct(Check check) {
        ChipRing x = new ChipRing();
        check.due("does()", Boards.does(x, "c2 0;c2 0;p1 1 3;k0 0;u3 1;h;"), 6);
        check.due("one state", x.told(4), 1);
        check.due("back()", x.back(), 0);
        check.due("all of it is taken back", x.count(0) + x.port(0), 0);
        check.due("the buffer is not", x.told(3), 29);
        check.due("does() without change", Boards.does(x, "h;"), 1);
        check.due("leaves a state too", x.told(4), 1);
        for (int i = 0; i < 7; i++) {
            x.does();
        }
        check.due("five states", x.told(4), 5);
        check.due("a refused text", Boards.does(x, "c1 1;"), -1000);
        check.due("a faulty text", Boards.does(x, "c"), -11);
        check.due("still five states", x.told(4), 5);
    }

    private static void nothingIsCounted(Check check) {
        ChipRing x = new ChipRing();
        Boards.does(x, "c1 1;");
        Boards.does(x, "c2 1;c2 1;c2 1;c2 1;c2 1;");
        Boards.does(x, "?");
        Boards.does(x, "");
        for (int what = 0; what < 3; what++) {
            check.due("told(" + what + ")", x.told(what), 0);
        }
    }
}
