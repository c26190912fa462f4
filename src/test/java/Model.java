import java.util.ArrayDeque;
import java.util.ArrayList;
import java.util.Deque;
import java.util.List;
import java.util.TreeSet;
import java.util.regex.Matcher;
import java.util.regex.Pattern;

/**
 * A second reading of the document, slow and in another form than ChipRing: a pattern at a time,
 * bits in lists, copies of whole states, and texts by a regular expression.
 */
final class Model {
    private static final int NONE = -1;
    private static final int BAD = -2;
    private static final int NO = -3;
    private static final int FULL = -4;
    private static final String NEXT =
        "0:1,0 1:1,2 2:3,9 3:4,5 4:4,5 5:6,8 6:6,7 7:4,8 8:1,2 9:10,0 10:11,12 11:11,12 12:13,15 13:13,14 14:11,15 15:1,2";
    private static final String N = "\\d{1,3}";
    private static final Pattern TEXT = Pattern.compile(
        "( *([ckou] *" + N + " +" + N + "|[ps] *" + N + " +" + N + " +" + N + "|h) *;)+ *");

    record Cell(boolean output, int net) {
    }

    private static final class Chip {
        int l;
        int d;
        int instruction;
        int ir;
        int dr;
        int latches;
        List<Cell> cells = new ArrayList<>();

        Chip copy() {
            Chip c = new Chip();
            c.l = l;
            c.d = d;
            c.instruction = instruction;
            c.ir = ir;
            c.dr = dr;
            c.latches = latches;
            c.cells = new ArrayList<>(cells);
            return c;
        }

        int initial() {
            return d < 256 ? 2 : (1 << l) - 1;
        }

        String name() {
            if (instruction == 0 && !cells.isEmpty()) return "EXTEST";
            if (instruction == 1 && !cells.isEmpty()) return "SAMPLE";
            return instruction == 2 && d < 256 ? "IDCODE" : "BYPASS";
        }

        int bits() {
            switch (name()) {
                case "IDCODE": return 8;
                case "BYPASS": return 1;
                default: return cells.size();
            }
        }
    }

    private static final class State {
        List<Chip> chips = new ArrayList<>();
        List<Integer> faults = new ArrayList<>();
        int port;

        State copy() {
            State s = new State();
            for (Chip c : chips) s.chips.add(c.copy());
            s.faults.addAll(faults);
            s.port = port;
            return s;
        }
    }

    /** What an output drives: a bit, or null if it does not drive. */
    private interface Driver {
        Integer bit(int c, int k);
    }

    private State now = new State();
    private final Deque<State> kept = new ArrayDeque<>();
    private final StringBuilder text = new StringBuilder();
    private final int[] errors = new int[3];

    private int err(int code) {
        errors[-2 - code]++;
        return code;
    }

    private static boolean in(int v, int low, int high) {
        return low <= v && v <= high;
    }

    private boolean isCell(int c, int k) {
        return in(c, 0, now.chips.size() - 1) && in(k, 0, now.chips.get(c).cells.size() - 1);
    }

    /** Does an order on the present state; answers as the method, without counting or keeping. */
    private int order(char letter, int a, int b, int c) {
        boolean full = now.faults.size() == 4;
        switch (letter) {
            case 'c': {
                if (!in(a, 2, 4) || !in(b, 0, 256)) return BAD;
                if (now.chips.size() == 4) return FULL;
                Chip made = new Chip();
                made.l = a;
                made.d = b;
                made.instruction = made.initial();
                now.chips.add(made);
                return now.chips.size() - 1;
            }
            case 'p': {
                if (!in(a, 0, now.chips.size() - 1) || !in(b, 0, 1) || !in(c, 0, 7)) return BAD;
                List<Cell> cells = now.chips.get(a).cells;
                if (cells.size() == 6) return FULL;
                cells.add(new Cell(b == 1, c));
                return cells.size() - 1;
            }
            case 'k':
                return in(a, 0, 1) && in(b, 0, 1) ? tick(a, b) : BAD;
            case 'o':
                if (!isCell(a, b)) return BAD;
                if (full) return FULL;
                now.faults.add(1000 + 10 * a + b);
                return now.faults.size();
            case 'u':
                if (!in(a, 0, 7) || !in(b, 0, 1)) return BAD;
                if (full) return FULL;
                now.faults.add(2000 + 10 * a + b);
                return now.faults.size();
            case 's':
                if (!in(a, 0, 7) || !in(b, 0, 7) || a == b || !in(c, 0, 1)) return BAD;
                if (full) return FULL;
                now.faults.add((c == 0 ? 3000 : 4000) + (a < b ? 10 * a + b : 10 * b + a));
                return now.faults.size();
            default: {
                int had = now.faults.size();
                now.faults.clear();
                return had;
            }
        }
    }

    private void keep(State before) {
        kept.push(before);
        if (kept.size() > 5) kept.removeLast();
    }

    int act(char letter, int a, int b, int c) {
        State before = now.copy();
        int answer = order(letter, a, b, c);
        if (answer < 0) return err(answer);
        keep(before);
        return answer;
    }

    private int tick(int tms, int tdi) {
        int tdo = 2;
        int[] seen = nowSeen();
        int at = 0;
        int bit = tdi;
        for (Chip c : now.chips) {
            int sees = seen[at++];
            String name = c.name();
            boolean cells = name.equals("EXTEST") || name.equals("SAMPLE");
            if (now.port == 0) c.instruction = c.initial();
            if (now.port == 10) c.ir = 1;
            if (now.port == 15) c.instruction = c.ir;
            if (now.port == 3) c.dr = cells ? sees : name.equals("IDCODE") ? c.d : 0;
            if (now.port == 8 && cells) c.latches = c.dr;
            if (now.port == 11) {
                int word = bit << c.l | c.ir;
                bit = word & 1;
                c.ir = word >> 1;
            }
            if (now.port == 4) {
                int word = bit << c.bits() | c.dr;
                bit = word & 1;
                c.dr = word >> 1;
            }
        }
        if (now.port == 4 || now.port == 11) tdo = bit;
        Matcher m = Pattern.compile("(?:^| )" + now.port + ":(\\d+),(\\d+)").matcher(NEXT);
        m.find();
        now.port = Integer.parseInt(m.group(1 + tms));
        return tdo;
    }

    int clocks(int n, int tms, int tdi) {
        if (!in(n, 1, 16) || !in(tms, 0, 65535) || !in(tdi, 0, 65535)) return err(BAD);
        keep(now.copy());
        List<Integer> left = new ArrayList<>();
        for (int i = 0; i < n; i++) {
            int tdo = tick(tms >> i & 1, tdi >> i & 1);
            if (tdo != 2) left.add(tdo);
        }
        int value = 0;
        for (int i = 0; i < left.size(); i++) value += left.get(i) << i;
        return value;
    }

    /** The values of the nets with some drivers and faults. */
    private int[] nets(Driver driver, List<Integer> faults, int[] fights) {
        int[] v = new int[8];
        for (int n = 0; n < 8; n++) {
            TreeSet<Integer> driven = new TreeSet<>();
            for (int c = 0; c < now.chips.size(); c++) {
                for (int k = 0; k < now.chips.get(c).cells.size(); k++) {
                    Cell cell = now.chips.get(c).cells.get(k);
                    if (cell.output() && cell.net() == n && !faults.contains(1000 + 10 * c + k)) {
                        Integer bit = driver.bit(c, k);
                        if (bit != null) driven.add(bit);
                    }
                }
            }
            v[n] = driven.isEmpty() ? 1 : driven.first();
            if (driven.size() == 2) fights[0] |= 1 << n;
        }
        for (int f : faults) {
            int a = f / 10 % 10;
            int b = f % 10;
            if (f / 1000 == 3) v[a] = v[b] = Math.min(v[a], v[b]);
            if (f / 1000 == 4) v[a] = v[b] = Math.max(v[a], v[b]);
        }
        for (int f : faults) {
            if (f / 1000 == 2) v[f / 10 % 10] = f % 10;
        }
        return v;
    }

    private Integer latchNow(int c, int k) {
        Chip chip = now.chips.get(c);
        return chip.instruction == 0 ? (Integer) (chip.latches >> k & 1) : null;
    }

    /** For each chip the number of what its inputs see and its outputs have as latches. */
    private int[] nowSeen() {
        int[] v = nets(this::latchNow, now.faults, new int[1]);
        int[] seen = new int[now.chips.size()];
        for (int c = 0; c < seen.length; c++) {
            Chip chip = now.chips.get(c);
            for (int k = 0; k < chip.cells.size(); k++) {
                Cell cell = chip.cells.get(k);
                boolean open = now.faults.contains(1000 + 10 * c + k);
                int bit = cell.output() ? chip.latches >> k & 1 : open ? 1 : v[cell.net()];
                seen[c] |= bit << k;
            }
        }
        return seen;
    }

    int port(int what) {
        int[] fights = new int[1];
        int[] v = nets(this::latchNow, now.faults, fights);
        switch (what) {
            case 0: return now.port;
            case 1: return now.chips.stream().mapToInt(Chip::bits).sum();
            case 2: return now.chips.stream().mapToInt(c -> c.l).sum();
            case 3: return fights[0];
            case 4: {
                int set = 0;
                for (int n = 0; n < 8; n++) set += v[n] << n;
                return set;
            }
            default: return err(BAD);
        }
    }

    int of(int c, int what) {
        if (!in(c, 0, now.chips.size() - 1) || !in(what, 0, 7)) return err(BAD);
        Chip chip = now.chips.get(c);
        return new int[] {chip.l, chip.d, chip.cells.size(), chip.instruction, chip.bits(), chip.ir, chip.dr,
            chip.latches}[what];
    }

    int about(int c, int k, int what) {
        if (!isCell(c, k) || !in(what, 0, 2)) return err(BAD);
        Cell cell = now.chips.get(c).cells.get(k);
        return new int[] {cell.output() ? 1 : 0, cell.net(), nowSeen()[c] >> k & 1}[what];
    }

    private TreeSet<Integer> netsWith(boolean outputsAlone) {
        TreeSet<Integer> set = new TreeSet<>();
        for (Chip c : now.chips) {
            for (Cell cell : c.cells) {
                if (cell.output() || !outputsAlone) set.add(cell.net());
            }
        }
        return set;
    }

    private static int mask(TreeSet<Integer> set) {
        int mask = 0;
        for (int n : set) mask += 1 << n;
        return mask;
    }

    int count(int what) {
        switch (what) {
            case 0: return now.chips.size();
            case 1: return now.chips.stream().mapToInt(c -> c.cells.size()).sum();
            case 2: return now.faults.size();
            case 3: return mask(netsWith(false));
            case 4: return mask(netsWith(true));
            default: return err(BAD);
        }
    }

    int fault(int i) {
        if (i < 0) return err(BAD);
        return i < now.faults.size() ? now.faults.get(i) : NONE;
    }

    private int codeBits() {
        int b = 1;
        while (Math.pow(2, b) < netsWith(true).size() + 2) b++;
        return b;
    }

    int patterns(int t) {
        return in(t, 0, 1) ? codeBits() * (t + 1) : err(BAD);
    }

    private int stimulus(int i, int n) {
        int code = netsWith(true).headSet(n, true).size();
        int b = codeBits();
        return i < b ? code >> i & 1 : 1 - (code >> i - b & 1);
    }

    int pattern(int t, int i, int n) {
        if (!in(t, 0, 1) || !in(n, 0, 7) || !in(i, 0, codeBits() * (t + 1) - 1)) return err(BAD);
        return netsWith(true).contains(n) ? stimulus(i, n) : NONE;
    }

    /** The answers of all inputs, in their order, as a text. */
    private String answers(int t, List<Integer> faults) {
        StringBuilder all = new StringBuilder();
        for (int i = 0; i < codeBits() * (t + 1); i++) {
            int[] latch = new int[8];
            for (int n = 0; n < 8; n++) latch[n] = stimulus(i, n);
            int[] v = nets((c, k) -> latch[now.chips.get(c).cells.get(k).net()], faults, new int[1]);
            for (int c = 0; c < now.chips.size(); c++) {
                for (int k = 0; k < now.chips.get(c).cells.size(); k++) {
                    Cell cell = now.chips.get(c).cells.get(k);
                    int bit = faults.contains(1000 + 10 * c + k) ? 1 : v[cell.net()];
                    all.append(cell.output() ? "" : c + "." + k + "=" + bit + " ");
                }
            }
        }
        return all.toString();
    }

    int answer(int t, int c, int k) {
        if (!in(t, 0, 1) || !isCell(c, k) || now.chips.get(c).cells.get(k).output()) return err(BAD);
        int value = 0;
        int i = 0;
        for (String one : answers(t, now.faults).split(" ")) {
            if (one.startsWith(c + "." + k + "=")) value += (one.charAt(4) - '0') << i++;
        }
        return value;
    }

    int seen(int t) {
        if (!in(t, 0, 1)) return err(BAD);
        return answers(t, now.faults).equals(answers(t, List.of())) ? 0 : 1;
    }

    int suspects(int t, int i) {
        if (!in(t, 0, 1) || i < -1) return err(BAD);
        TreeSet<Integer> candidates = new TreeSet<>();
        for (int c = 0; c < now.chips.size(); c++) {
            for (int k = 0; k < now.chips.get(c).cells.size(); k++) candidates.add(1000 + 10 * c + k);
        }
        for (int a : netsWith(false)) {
            candidates.add(2000 + 10 * a);
            candidates.add(2001 + 10 * a);
            for (int b : netsWith(false).tailSet(a, false)) {
                candidates.add(3000 + 10 * a + b);
                candidates.add(4000 + 10 * a + b);
            }
        }
        String are = answers(t, now.faults);
        List<Integer> found = new ArrayList<>();
        if (are.equals(answers(t, List.of()))) found.add(0);
        for (int code : candidates) {
            if (are.equals(answers(t, List.of(code)))) found.add(code);
        }
        if (i == -1) return found.size();
        return i < found.size() ? found.get(i) : -5;
    }

    int type(int c) {
        if (!in(c, 0, 127)) return err(BAD);
        if (text.length() == 120) return err(FULL);
        text.append((char) c);
        return text.length();
    }

    int clear() {
        int had = text.length();
        text.setLength(0);
        return had;
    }

    /** The fault of the text, or -1. */
    private int textFault() {
        for (int n = 1; n <= text.length(); n++) {
            Matcher m = TEXT.matcher(text.substring(0, n));
            if (!m.matches() && !m.hitEnd()) return n - 1;
        }
        return TEXT.matcher(text).matches() ? -1 : text.length();
    }

    int does() {
        int fault = textFault();
        if (fault >= 0) return -10 - fault;
        State before = now.copy();
        int done = 0;
        for (String one : text.toString().split(";")) {
            if (one.isBlank()) continue;
            Matcher m = Pattern.compile("\\d+").matcher(one);
            int[] number = new int[3];
            for (int i = 0; m.find(); i++) number[i] = Integer.parseInt(m.group());
            if (order(one.trim().charAt(0), number[0], number[1], number[2]) < 0) {
                now = before;
                return -1000 - done;
            }
            done++;
        }
        keep(before);
        return done;
    }

    int back() {
        if (kept.isEmpty()) return err(NO);
        now = kept.pop();
        return kept.size();
    }

    int told(int what) {
        switch (what) {
            case 0: case 1: case 2: return errors[what];
            case 3: return text.length();
            case 4: return kept.size();
            default: return err(BAD);
        }
    }

    long digest() {
        long h = 2694;
        for (int w = 0; w < 5; w++) h = 31 * h + told(w);
        for (int w = 0; w < 5; w++) h = 31 * h + count(w);
        for (int w = 0; w < 5; w++) h = 31 * h + port(w);
        for (int c = 0; c < now.chips.size(); c++) {
            for (int w = 0; w < 8; w++) h = 31 * h + of(c, w);
            for (int k = 0; k < now.chips.get(c).cells.size(); k++) {
                for (int w = 0; w < 3; w++) h = 31 * h + about(c, k, w);
            }
        }
        for (int f : now.faults) h = 31 * h + f;
        h = 31 * h + patterns(0);
        for (int t = 0; t < 2; t++) h = 31 * h + seen(t);
        for (int t = 0; t < 2; t++) h = 31 * h + suspects(t, -1);
        return h;
    }
}
