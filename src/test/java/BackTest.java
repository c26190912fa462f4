import java.util.Arrays;

/** Promises 23 to 25: back, told, digest. */
public final class BackTest {
    public static void main(String[] args) {
        Check check = new Check("BackTest");
        fiveStates(check);
        everyAct(check);
        throughChangingStates(check);
        againInItsPlace(check);
        singleClocks(check);
        failedActsKeepOldStates(check);
        notTakenBack(check);
        counts(check);
        digests(check);
        check.end();
    }

    private static void fiveStates(Check check) {
        ChipRing x = new ChipRing();
        check.refused(x, "back() at once", x::back, ChipRing.NO);
        x.chip(2, 1);
        for (int n = 0; n < 6; n++) {
            x.cell(0, 0, n);
        }
        check.due("kept", x.told(4), 5);
        for (int left = 4; left >= 0; left--) {
            check.due("back()", x.back(), left);
            check.due("cells then", x.count(1), left + 1);
            check.due("nets then", x.count(3), (2 << left) - 1);
        }
        check.refused(x, "back() at the end", x::back, ChipRing.NO);
        check.due("the chip is still there", x.count(0), 1);
        check.due("on from there", x.cell(0, 1, 7), 1);
        check.due("a state again", x.told(4), 1);
        check.due("back() again", x.back(), 0);
        check.due("cells at last", x.count(1), 1);
    }

    private static void taken(Check check, ChipRing x, String act, long before) {
        check.due("kept after " + act, x.told(4), 5);
        check.due(act + " changed it", x.digest() == before ? 1 : 0, 0);
        check.due("back() from " + act, x.back(), 4);
        // an act that changes nothing, so that five states are kept as before
        x.clocks(1, 1, 0);
        check.due("digest after " + act, x.digest(), before);
    }

    /** Each act is done at a board with five states kept, in the reset state with its work done. */
    private static void everyAct(Check check) {
        ChipRing x = Boards.pairInExtest();
        Boards.scanData(x, 0b01_10);
        x.sticks(0, 1);
        x.clocks(8, 255, 0);
        long before = x.digest();
        x.chip(4, 256);
        taken(check, x, "chip", before);
        x.cell(0, 1, 6);
        taken(check, x, "cell", before);
        x.opens(0, 0);
        taken(check, x, "opens", before);
        x.sticks(5, 0);
        taken(check, x, "sticks", before);
        x.shorts(1, 5, 0);
        taken(check, x, "shorts", before);
        x.heals();
        taken(check, x, "heals", before);
        x.clock(0, 0);
        taken(check, x, "clock", before);
        x.clocks(16, 0b0000_0011_0000_0110, 0x5555);
        taken(check, x, "clocks", before);
        x.clock(0, 0);
        long idle = x.digest();
        x.clocks(16, 0b0000_0011_0000_0011, 0x5555);
        x.back();
        check.due("the port before clocks", x.port(0), 1);
        x.clocks(1, 0, 0);
        check.due("digest before clocks", x.digest(), idle);
        x.back();
        x.back();
        x.clocks(1, 1, 0);
        x.clocks(1, 1, 0);
        long typed = typedDigest(x, "c2 9;k0 0;k1 0;");
        x.does();
        taken(check, x, "does", typed);
    }

    private static long typedDigest(ChipRing x, String text) {
        Boards.type(x, text);
        return x.digest();
    }

    /** Every act starts from another state, so that no place of a state holds the right one by chance. */
    private static void throughChangingStates(Check check) {
        String[] acts = {
            "c 2 256", "p 0 1 3", "c 3 17", "p 1 0 3", "u 3 0", "c 4 200", "p 2 1 3", "o 0 0", "s 3 6 1", "p 1 1 5",
            "k 1 0 0", "k 4 3 0", "k 4 0 9", "k 3 3 0", "k 3 1 0", "k 1 0 1", "k 2 0 1", "k 2 3 1", "k 1 0 0", "h",
            "k 4 3 0", "k 3 0 0", "k 6 0 0", "k 3 3 0", "k 2 1 0", "k 1 0 0", "k 5 0 29", "k 1 1 1", "k 1 1 0",
            "k 1 1 0", "o 1 0", "u 5 1", "p 0 0 5", "h", "c 2 0", "p 3 1 7", "s 7 3 0", "u 6 0"
        };
        for (int steps = 1; steps <= 5; steps++) {
            for (int i = 0; i + steps <= acts.length; i++) {
                ChipRing x = after(acts, i + steps);
                for (int taken = 0; taken < steps; taken++) {
                    x.back();
                }
                same(check, x, after(acts, i), steps + " acts before act " + (i + steps));
                act(x, acts[i]);
                same(check, x, after(acts, i + 1), steps + " acts before, and act " + i + " again");
            }
        }
    }

    private static void same(Check check, ChipRing x, ChipRing y, String when) {
        check.due("the same board, " + when, Arrays.equals(boardOf(x), boardOf(y)) ? 1 : 0, 1);
    }

    /** A new object on which the first n acts were done. */
    private static ChipRing after(String[] acts, int n) {
        ChipRing x = new ChipRing();
        for (int i = 0; i < n; i++) {
            act(x, acts[i]);
        }
        return x;
    }

    /** Does an act that is told as in a text, but with k for clocks(). */
    private static void act(ChipRing x, String act) {
        int[] v = new int[4];
        String[] words = act.split(" ");
        for (int i = 1; i < words.length; i++) {
            v[i] = Integer.parseInt(words[i]);
        }
        switch (act.charAt(0)) {
            case 'c': x.chip(v[1], v[2]); break;
            case 'p': x.cell(v[1], v[2], v[3]); break;
            case 'o': x.opens(v[1], v[2]); break;
            case 'u': x.sticks(v[1], v[2]); break;
            case 's': x.shorts(v[1], v[2], v[3]); break;
            case 'k': x.clocks(v[1], v[2], v[3]); break;
            default: x.heals(); break;
        }
    }

    private static long[] boardOf(ChipRing x) {
        long[] all = Boards.everything(x);
        return Arrays.copyOfRange(all, 5, all.length);
    }

    /** What was taken back leaves nothing to the chip or the cell that comes in its place. */
    private static void againInItsPlace(Check check) {
        ChipRing x = new ChipRing();
        x.clocks(5, 0b00110, 0);
        check.due("in shift IR", x.port(0), 11);
        String shiftZeros = "k0 0;k1 0;k1 0;k1 0;k0 0;k0 0;";
        String shiftOnes = "k1 1;k1 0;k1 0;k1 0;k0 0;k0 0;";
        check.due("does()", Boards.does(x, "c2 256;p0 1 1;" + shiftZeros + shiftOnes), 14);
        int[] used = {2, 256, 1, 0, 1, 1, 1, 1};
        for (int what = 0; what < 8; what++) {
            check.due("of(0, " + what + ") of the chip", x.of(0, what), used[what]);
        }
        check.due("back()", x.back(), 1);
        check.due("no chip", x.count(0), 0);
        x.chip(3, 99);
        int[] due = {3, 99, 0, 2, 8, 0, 0, 0};
        for (int what = 0; what < 8; what++) {
            check.due("of(0, " + what + ") of the new chip", x.of(0, what), due[what]);
        }
        x.cell(0, 0, 2);
        check.due("a new input", x.about(0, 0, 0), 0);
        check.due("count(4)", x.count(4), 0);
        check.due("an output", x.cell(0, 1, 5), 1);
        check.due("count(4) then", x.count(4), 32);
        x.back();
        check.due("an input in its place", x.cell(0, 0, 6), 1);
        check.due("its kind", x.about(0, 1, 0), 0);
        check.due("its net", x.about(0, 1, 1), 6);
        check.due("count(3) at last", x.count(3), 68);
        check.due("count(4) at last", x.count(4), 0);
        x.back();
        check.due("an order that is refused", Boards.does(x, "p0 1 7;p0 1 9;"), -1001);
        check.due("an input after it", x.cell(0, 0, 7), 1);
        check.due("its kind then", x.about(0, 1, 0), 0);
        check.due("count(4) after it", x.count(4), 0);
    }

    private static void singleClocks(Check check) {
        ChipRing x = new ChipRing();
        int[] way = {0, 1, 0, 0, 1, 0, 1, 1, 1, 1, 0, 0, 1};
        int[] states = {0, 1, 2, 3, 4, 5, 6, 7, 8, 2, 9, 10, 11, 12};
        for (int i = 0; i < way.length; i++) {
            x.clock(way[i], 0);
        }
        for (int left = 4; left >= 0; left--) {
            check.due("port(0) before back()", x.port(0), states[way.length - 4 + left]);
            check.due("back()", x.back(), left);
        }
        check.due("port(0) at the end", x.port(0), states[way.length - 5]);
    }

    private static void failedActsKeepOldStates(Check check) {
        ChipRing x = new ChipRing();
        for (int i = 0; i < 4; i++) {
            x.chip(2, i);
        }
        x.sticks(0, 0);
        check.due("kept", x.told(4), 5);
        x.chip(2, 0);
        x.chip(9, 0);
        x.clock(2, 2);
        x.clocks(0, 0, 0);
        x.opens(0, 0);
        x.shorts(0, 0, 0);
        x.cell(9, 9, 9);
        check.due("still kept", x.told(4), 5);
        for (int left = 4; left >= 0; left--) {
            check.due("back()", x.back(), left);
            check.due("chips then", x.count(0), left);
        }
        check.due("no faults", x.count(2), 0);
    }

    private static void notTakenBack(Check check) {
        ChipRing x = new ChipRing();
        x.chip(2, 0);
        x.type(65);
        x.chip(0, 0);
        x.type(66);
        check.due("back()", x.back(), 0);
        check.due("chips", x.count(0), 0);
        check.due("bytes stay", x.told(3), 2);
        check.due("counts stay", x.told(0), 1);
        x.chip(2, 0);
        x.clear();
        x.back();
        check.due("bytes stay away", x.told(3), 0);
        x.back();
        x.back();
        check.due("told(1)", x.told(1), 2);
    }

    private static void counts(Check check) {
        ChipRing x = new ChipRing();
        x.chip(0, 0);
        x.cell(0, 0, 0);
        x.opens(0, 0);
        x.sticks(8, 0);
        x.shorts(0, 0, 0);
        x.clock(2, 0);
        x.clocks(0, 0, 0);
        x.port(5);
        x.of(0, 0);
        x.about(0, 0, 0);
        x.count(5);
        x.fault(-1);
        x.patterns(2);
        x.pattern(2, 0, 0);
        x.answer(0, 0, 0);
        x.seen(2);
        x.suspects(2, 0);
        x.type(128);
        x.told(5);
        check.due("BAD in every method", x.told(0), 19);
        x.back();
        x.back();
        check.due("NO", x.told(1), 2);
        for (int i = 0; i < 4; i++) {
            x.chip(2, 0);
        }
        x.chip(2, 0);
        for (int i = 0; i < 7; i++) {
            x.cell(0, 0, i);
        }
        for (int i = 0; i < 5; i++) {
            x.sticks(i, 0);
        }
        x.opens(0, 0);
        x.shorts(0, 1, 0);
        for (int i = 0; i < 121; i++) {
            x.type(32);
        }
        check.due("FULL", x.told(2), 6);
        check.due("BAD as before", x.told(0), 19);
        check.due("bytes", x.told(3), 120);
        check.due("states", x.told(4), 5);
    }

    private static void digests(Check check) {
        ChipRing x = new ChipRing();
        long[] fresh = {0, 0, 0, 0, 0, 0, 0, 0, 0, 0, 0, 0, 0, 0, 255, 1, 0, 0, 1, 1};
        check.due("digest of a new object", x.digest(), Boards.digestOf(fresh));
        check.due("digest again", x.digest(), Boards.digestOf(fresh));
        x.chip(3, 77);
        x.chip(2, 256);
        x.cell(0, 1, 3);
        x.cell(1, 0, 3);
        x.cell(1, 0, 2);
        x.shorts(2, 3, 0);
        x.type(9);
        x.told(9);
        long[] due = {
            1, 0, 0, 1, 5,
            2, 3, 1, 12, 8,
            0, 9, 5, 0, 255,
            3, 77, 1, 2, 8, 0, 0, 0, 1, 3, 0,
            2, 256, 2, 3, 1, 0, 0, 0, 0, 3, 1, 0, 2, 1,
            3023,
            2, 1, 1, 1, 1
        };
        check.due("digest of a board", x.digest(), Boards.digestOf(due));
        ChipRing y = Boards.pairInExtest();
        Boards.scanData(y, 0b10_01);
        y.opens(1, 0);
        y.sticks(1, 0);
        y.fault(-1);
        y.cell(1, 0, 6);
        check.due("digest by the methods", y.digest(), Boards.digestOf(Boards.everything(y)));
    }
}
