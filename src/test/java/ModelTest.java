import java.util.Random;

/** Random runs of calls, each answered by ChipRing and by Model. The seeds are fixed. */
public final class ModelTest {
    private static final int RUNS = 1600;
    /** An object may be used for 512 calls; a text takes up to 125 of them at once. */
    private static final int CALLS = 512 - 130;
    private static final int LONGEST_TEXT = 121;

    private final Check check;
    private final Random random;
    private final int run;
    private final ChipRing x = new ChipRing();
    private final Model y = new Model();
    /** How often, of a hundred, an argument is a wild one. */
    private final int wild;
    private int calls;

    private ModelTest(Check check, int run) {
        this.check = check;
        this.run = run;
        random = new Random(run);
        wild = run % 4 == 0 ? 15 : 2;
    }

    public static void main(String[] args) {
        Check check = new Check("ModelTest");
        for (int run = 0; run < RUNS; run++) {
            new ModelTest(check, run).calls();
        }
        check.end();
    }

    private int pick(int low, int high) {
        if (random.nextInt(100) < wild) {
            int[] edges = {low - 1, high + 1, low - 2, high + 2, Integer.MIN_VALUE, Integer.MAX_VALUE, -1, 0};
            return edges[random.nextInt(edges.length)];
        }
        return low + random.nextInt(high - low + 1);
    }

    private int chipNumber() {
        return pick(0, Math.max(0, y.count(0) - 1));
    }

    private int cellNumber(int c) {
        int cells = c >= 0 && c < y.count(0) ? y.of(c, 2) : 1;
        return pick(0, Math.max(0, cells - 1));
    }

    private void due(String call, long got, long want) {
        calls++;
        check.due("run " + run + ": " + call, got, want);
    }

    private void calls() {
        boolean texts = run % 2 == 0;
        while (calls < CALLS) {
            int kind = random.nextInt(100);
            if (kind < 30) {
                build();
            } else if (kind < 60) {
                port();
            } else if (kind < 80) {
                ask();
            } else if (kind < 88) {
                test();
            } else if (kind < 96) {
                if (texts) {
                    text();
                } else {
                    build();
                }
            } else {
                due("back()", x.back(), y.back());
            }
            if (random.nextInt(60) == 0) {
                due("digest()", x.digest(), y.digest());
            }
        }
        due("digest()", x.digest(), y.digest());
    }

    private void build() {
        int c = chipNumber();
        int k = cellNumber(c);
        int n = pick(0, 7);
        int v = pick(0, 1);
        int m = pick(0, 7);
        switch (random.nextInt(9)) {
            case 0: {
                int l = pick(2, 4);
                int d = random.nextBoolean() ? 256 : pick(0, 255);
                due("chip(" + l + ", " + d + ")", x.chip(l, d), y.act('c', l, d, 0));
                break;
            }
            case 1:
                due("opens(" + c + ", " + k + ")", x.opens(c, k), y.act('o', c, k, 0));
                break;
            case 2:
                due("sticks(" + n + ", " + v + ")", x.sticks(n, v), y.act('u', n, v, 0));
                break;
            case 3:
                due("shorts(" + n + ", " + m + ", " + v + ")", x.shorts(n, m, v), y.act('s', n, m, v));
                break;
            case 4:
                due("heals()", x.heals(), y.act('h', 0, 0, 0));
                break;
            default:
                due("cell(" + c + ", " + v + ", " + n + ")", x.cell(c, v, n), y.act('p', c, v, n));
                break;
        }
    }

    private void port() {
        int kind = random.nextInt(10);
        if (kind < 3) {
            int tms = pick(0, 1);
            int tdi = pick(0, 1);
            due("clock(" + tms + ", " + tdi + ")", x.clock(tms, tdi), y.act('k', tms, tdi, 0));
        } else if (kind < 6) {
            clocks(pick(1, 16), pick(0, 65535), pick(0, 65535));
        } else {
            scan(kind < 8, random.nextInt(3) == 0 ? 0 : random.nextInt());
        }
    }

    private void clocks(int n, int tms, int tdi) {
        due("clocks(" + n + ", " + tms + ", " + tdi + ")", x.clocks(n, tms, tdi), y.clocks(n, tms, tdi));
    }

    /** A whole scan, so that instructions and latches get used. */
    private void scan(boolean instructions, int bits) {
        if (y.port(0) != 1) {
            clocks(6, random.nextInt(3) == 0 ? 31 : random.nextBoolean() ? 3 : 1, 0);
        }
        clocks(instructions ? 4 : 3, instructions ? 3 : 1, 0);
        int length = y.port(instructions ? 2 : 1);
        while (length > 16) {
            clocks(16, 0, bits & 0xFFFF);
            length -= 16;
        }
        if (length > 0) {
            clocks(length, 1 << length - 1, bits >>> 16);
            clocks(2, 1, 0);
        }
    }

    private void ask() {
        int what = pick(0, 4);
        int c = chipNumber();
        int k = cellNumber(c);
        int w = pick(0, 7);
        int u = pick(0, 2);
        int i = pick(0, 4);
        due("port(" + what + ")", x.port(what), y.port(what));
        due("of(" + c + ", " + w + ")", x.of(c, w), y.of(c, w));
        due("about(" + c + ", " + k + ", " + u + ")", x.about(c, k, u), y.about(c, k, u));
        due("count(" + what + ")", x.count(what), y.count(what));
        due("fault(" + i + ")", x.fault(i), y.fault(i));
        due("told(" + what + ")", x.told(what), y.told(what));
    }

    private void test() {
        int t = pick(0, 1);
        int c = chipNumber();
        int k = cellNumber(c);
        int n = pick(0, 7);
        int i = pick(0, 7);
        int s = pick(-1, 6);
        due("patterns(" + t + ")", x.patterns(t), y.patterns(t));
        due("pattern(" + t + ", " + i + ", " + n + ")", x.pattern(t, i, n), y.pattern(t, i, n));
        due("answer(" + t + ", " + c + ", " + k + ")", x.answer(t, c, k), y.answer(t, c, k));
        due("seen(" + t + ")", x.seen(t), y.seen(t));
        if (random.nextInt(3) == 0) {
            due("suspects(" + t + ", " + s + ")", x.suspects(t, s), y.suspects(t, s));
        }
    }

    private String number(int low, int high) {
        int v = random.nextInt(100) < wild ? random.nextInt(1000) : low + random.nextInt(high - low + 1);
        return random.nextInt(8) == 0 ? String.format("%03d", v) : Integer.toString(v);
    }

    private String spaces(int least) {
        return " ".repeat(least + (random.nextInt(6) == 0 ? random.nextInt(3) : 0));
    }

    private String order() {
        String text = spaces(0);
        switch (random.nextInt(8)) {
            case 0: text += "c" + spaces(0) + number(2, 4) + spaces(1) + number(0, 256); break;
            case 1: case 2:
                text += "p" + spaces(0) + number(0, 3) + spaces(1) + number(0, 1) + spaces(1) + number(0, 7);
                break;
            case 3: text += "o" + spaces(0) + number(0, 3) + spaces(1) + number(0, 5); break;
            case 4: text += "u" + spaces(0) + number(0, 7) + spaces(1) + number(0, 1); break;
            case 5: text += "s" + spaces(0) + number(0, 7) + spaces(1) + number(0, 7) + spaces(1) + number(0, 1); break;
            case 6: text += "h"; break;
            default: text += "k" + spaces(0) + number(0, 1) + spaces(1) + number(0, 1); break;
        }
        return text + spaces(0) + ";";
    }

    private void text() {
        if (random.nextInt(10) > 0) {
            due("clear()", x.clear(), y.clear());
        }
        StringBuilder text = new StringBuilder();
        int orders = random.nextInt(random.nextInt(4) == 0 ? 16 : 4);
        for (int i = 0; i < orders; i++) {
            text.append(order());
        }
        text.append(spaces(0));
        if (random.nextInt(3) == 0 && text.length() > 0) {
            spoil(text);
        }
        text.setLength(Math.min(text.length(), LONGEST_TEXT));
        for (char c : text.toString().toCharArray()) {
            due("type(" + (int) c + ")", x.type(c), y.type(c));
        }
        if (random.nextInt(20) == 0) {
            int c = pick(0, 127);
            due("type(" + c + ")", x.type(c), y.type(c));
        }
        due("does() of '" + text + "'", x.does(), y.does());
    }

    private void spoil(StringBuilder text) {
        int at = random.nextInt(text.length());
        String signs = "cpkoush;; 0123459xC,\t";
        char sign = signs.charAt(random.nextInt(signs.length()));
        switch (random.nextInt(4)) {
            case 0: text.deleteCharAt(at); break;
            case 1: text.insert(at, sign); break;
            case 2: text.setCharAt(at, sign); break;
            default: text.setLength(at); break;
        }
    }
}
