/**
 * A boundary-scan chain (JTAG) of chips on a board, with a test access port, nets that can have
 * faults, interconnect tests, a text form of orders, and changes that can be taken back.
 *
 * All rows are made in the constructor and used again, so that no call makes an object.
 */
public final class ChipRing {
    public static final int NONE = -1, BAD = -2, NO = -3, FULL = -4;

    private static final int CHIPS = 4;
    private static final int CELLS = 6;
    private static final int NETS = 8;
    private static final int FAULTS = 4;
    private static final int STATES_KEPT = 5;
    private static final int TEXT_BYTES = 120;
    private static final int MOST_CLOCKS = 16;
    private static final int MOST_CLOCK_BITS = 65535;

    /** The shortest order is a letter and a semicolon. */
    private static final int ORDERS = TEXT_BYTES / 2;
    private static final int ORDER_NUMBERS = 3;
    private static final int NUMBER_DIGITS = 3;

    /** No fault, each open cell, each stuck net at two values, each two nets as AND and as OR. */
    private static final int CANDIDATES = 1 + CHIPS * CELLS + 2 * NETS + NETS * (NETS - 1);

    private static final int NO_IDENTITY = 256;
    private static final int IDENTITY_BITS = 8;

    private static final int EXTEST = 0;
    private static final int SAMPLE = 1;
    private static final int IDCODE = 2;

    private static final int RESET = 0;
    private static final int CAPTURE_DR = 3;
    private static final int SHIFT_DR = 4;
    private static final int UPDATE_DR = 8;
    private static final int CAPTURE_IR = 10;
    private static final int SHIFT_IR = 11;
    private static final int UPDATE_IR = 15;

    /** What a clock outside the shift states answers in the place of TDO. */
    private static final int NO_TDO = 2;

    /** At 2 * state + TMS stands the next state of the port. */
    private static final int[] NEXT_STATE = {
        1, 0, 1, 2, 3, 9, 4, 5, 4, 5, 6, 8, 6, 7, 4, 8,
        1, 2, 10, 0, 11, 12, 11, 12, 13, 15, 13, 14, 11, 15, 1, 2
    };

    private static final int NO_FAULT = 0;
    private static final int OPEN = 1;
    private static final int STUCK = 2;
    private static final int SHORT_AND = 3;
    private static final int SHORT_OR = 4;

    private static final int NO_SUCH_SUSPECT = -5;
    private static final int TEXT_FAULT = -10;
    private static final int ORDER_REFUSED = -1000;

    private static final long DIGEST_START = 2694L;

    private final Board board;
    private final Nets nets;
    private final Tester tester;
    private final History history;
    private final Text text;
    private int bads;
    private int noes;
    private int fulls;

    public ChipRing() {
        Board empty = new Board();
        board = empty;
        nets = new Nets(empty);
        tester = new Tester(empty);
        history = new History();
        text = new Text();
    }

    // ---- board

    public int chip(int l, int d) {
        history.mark(board);
        return actEnded(board.addChip(l, d));
    }

    public int cell(int c, int k, int n) {
        history.mark(board);
        return actEnded(board.addCell(c, k, n));
    }

    public int opens(int c, int k) {
        history.mark(board);
        return actEnded(board.addOpen(c, k));
    }

    public int sticks(int n, int v) {
        history.mark(board);
        return actEnded(board.addStuck(n, v));
    }

    public int shorts(int a, int b, int k) {
        history.mark(board);
        return actEnded(board.addShort(a, b, k));
    }

    public int heals() {
        history.mark(board);
        return actEnded(board.dropFaults());
    }

    // ---- the port

    public int clock(int tms, int tdi) {
        history.mark(board);
        return actEnded(board.tick(tms, tdi, nets));
    }

    public int clocks(int n, int tms, int tdi) {
        history.mark(board);
        return actEnded(manyClocks(n, tms, tdi));
    }

    public int port(int what) {
        return counted(portNumber(what));
    }

    // ---- what is told

    public int of(int c, int what) {
        if (!board.hasChip(c)) {
            return counted(BAD);
        }
        return counted(board.chips[c].number(what));
    }

    public int about(int c, int k, int what) {
        if (!board.hasCell(c, k)) {
            return counted(BAD);
        }
        return counted(cellNumber(c, k, what));
    }

    public int count(int what) {
        return counted(board.number(what));
    }

    public int fault(int i) {
        if (i < 0) {
            return counted(BAD);
        }
        return i < board.faultCount ? board.faults[i] : NONE;
    }

    // ---- tests

    public int patterns(int t) {
        return isBit(t) ? tester.patternCount(t) : counted(BAD);
    }

    public int pattern(int t, int i, int n) {
        if (!isBit(t) || !isNet(n) || i < 0 || i >= tester.patternCount(t)) {
            return counted(BAD);
        }
        if (!isMember(board.outputNets, n)) {
            return NONE;
        }
        return (tester.stimulus(t, n) >> i) & 1;
    }

    public int answer(int t, int c, int k) {
        if (!isBit(t) || !board.hasCell(c, k) || board.chips[c].isOutput(k)) {
            return counted(BAD);
        }
        return tester.presentAnswer(t, c, k);
    }

    public int seen(int t) {
        if (!isBit(t)) {
            return counted(BAD);
        }
        return tester.showsFaults(t) ? 1 : 0;
    }

    public int suspects(int t, int i) {
        if (!isBit(t) || i < NONE) {
            return counted(BAD);
        }
        int found = tester.findSuspects(t);
        if (i == NONE) {
            return found;
        }
        return i < found ? tester.codes[i] : NO_SUCH_SUSPECT;
    }

    // ---- texts

    public int type(int c) {
        return counted(text.append(c));
    }

    public int clear() {
        return text.drop();
    }

    public int does() {
        int place = text.parse();
        if (place != NONE) {
            return TEXT_FAULT - place;
        }
        history.mark(board);
        for (int i = 0; i < text.orderCount; i++) {
            if (carryOut(text.letters[i], i * ORDER_NUMBERS) < 0) {
                history.returnToMark(board);
                return ORDER_REFUSED - i;
            }
        }
        history.keepMark();
        return text.orderCount;
    }

    public int back() {
        return counted(history.takeBack(board));
    }

    public int told(int what) {
        switch (what) {
            case 0: return bads;
            case 1: return noes;
            case 2: return fulls;
            case 3: return text.length;
            case 4: return history.kept;
            default: return counted(BAD);
        }
    }

    public long digest() {
        long h = DIGEST_START;
        for (int what = 0; what < 5; what++) {
            h = mixed(h, told(what));
        }
        for (int what = 0; what < 5; what++) {
            h = mixed(h, count(what));
        }
        for (int what = 0; what < 5; what++) {
            h = mixed(h, port(what));
        }
        h = mixedChips(h);
        for (int i = 0; i < board.faultCount; i++) {
            h = mixed(h, board.faults[i]);
        }
        h = mixed(h, patterns(0));
        h = mixed(h, seen(0));
        h = mixed(h, seen(1));
        h = mixed(h, suspects(0, NONE));
        return mixed(h, suspects(1, NONE));
    }

    // ---- behind the face

    private static boolean isBit(int v) {
        return v == 0 || v == 1;
    }

    private static boolean isNet(int n) {
        return n >= 0 && n < NETS;
    }

    private static boolean isMember(int set, int i) {
        return ((set >> i) & 1) == 1;
    }

    private static int faultCode(int kind, int tens, int ones) {
        return 1000 * kind + 10 * tens + ones;
    }

    private static int kindOf(int code) {
        return code / 1000;
    }

    private static int tensOf(int code) {
        return code / 10 % 10;
    }

    private static int onesOf(int code) {
        return code % 10;
    }

    private static long mixed(long h, int v) {
        return 31 * h + v;
    }

    private int counted(int answer) {
        if (answer == BAD) {
            bads++;
        } else if (answer == NO) {
            noes++;
        } else if (answer == FULL) {
            fulls++;
        }
        return answer;
    }

    private int actEnded(int answer) {
        if (answer >= 0) {
            history.keepMark();
        }
        return counted(answer);
    }

    private int manyClocks(int n, int tms, int tdi) {
        if (n < 1 || n > MOST_CLOCKS || tms < 0 || tms > MOST_CLOCK_BITS
                || tdi < 0 || tdi > MOST_CLOCK_BITS) {
            return BAD;
        }
        int bits = 0;
        int length = 0;
        for (int i = 0; i < n; i++) {
            int tdo = board.tick((tms >> i) & 1, (tdi >> i) & 1, nets);
            if (tdo != NO_TDO) {
                bits |= tdo << length;
                length++;
            }
        }
        return bits;
    }

    private int portNumber(int what) {
        switch (what) {
            case 0:
                return board.portState;
            case 1:
                return board.dataBits();
            case 2:
                return board.instructionBits();
            case 3:
                nets.settleNow();
                return nets.fighting;
            case 4:
                nets.settleNow();
                return nets.netsAtOne();
            default:
                return BAD;
        }
    }

    private int cellNumber(int c, int k, int what) {
        Chip described = board.chips[c];
        switch (what) {
            case 0:
                return described.isOutput(k) ? 1 : 0;
            case 1:
                return described.netOf[k];
            case 2:
                if (described.isOutput(k)) {
                    return (described.latches >> k) & 1;
                }
                nets.settleNow();
                return nets.seenBy(c, k);
            default:
                return BAD;
        }
    }

    /** The numbers of the order stand in the text's row from the index first on. */
    private int carryOut(int letter, int first) {
        int a = text.numbers[first];
        int b = text.numbers[first + 1];
        int c = text.numbers[first + 2];
        switch (letter) {
            case 'c': return board.addChip(a, b);
            case 'p': return board.addCell(a, b, c);
            case 'k': return board.tick(a, b, nets);
            case 'o': return board.addOpen(a, b);
            case 'u': return board.addStuck(a, b);
            case 's': return board.addShort(a, b, c);
            case 'h': return board.dropFaults();
            default: return BAD;
        }
    }

    private long mixedChips(long start) {
        long h = start;
        for (int c = 0; c < board.chipCount; c++) {
            for (int what = 0; what < 8; what++) {
                h = mixed(h, of(c, what));
            }
            int cells = board.chips[c].cellCount;
            for (int k = 0; k < cells; k++) {
                for (int what = 0; what < 3; what++) {
                    h = mixed(h, about(c, k, what));
                }
            }
        }
        return h;
    }

    /** A chip: its registers, its instruction and its cells. */
    private static final class Chip {
        int instructionBits;
        int identity;
        int instruction;
        int instructionContent;
        int dataContent;
        int latches;
        int cellCount;
        int outputs;
        final int[] netOf = new int[CELLS];

        /** The object may have been another chip before, which was taken back. */
        void begin(int bits, int d) {
            instructionBits = bits;
            identity = d;
            instructionContent = 0;
            dataContent = 0;
            latches = 0;
            cellCount = 0;
            outputs = 0;
            reset();
        }

        void copyFrom(Chip other) {
            instructionBits = other.instructionBits;
            identity = other.identity;
            instruction = other.instruction;
            instructionContent = other.instructionContent;
            dataContent = other.dataContent;
            latches = other.latches;
            cellCount = other.cellCount;
            outputs = other.outputs;
            System.arraycopy(other.netOf, 0, netOf, 0, CELLS);
        }

        void reset() {
            instruction = identity == NO_IDENTITY ? (1 << instructionBits) - 1 : IDCODE;
        }

        int addCell(int kind, int n) {
            if (cellCount >= CELLS) {
                return FULL;
            }
            int k = cellCount;
            netOf[k] = n;
            outputs |= kind << k;
            cellCount++;
            return k;
        }

        boolean isOutput(int k) {
            return isMember(outputs, k);
        }

        boolean scansCells() {
            return (instruction == EXTEST || instruction == SAMPLE) && cellCount > 0;
        }

        boolean scansIdentity() {
            return instruction == IDCODE && identity != NO_IDENTITY;
        }

        int dataBits() {
            if (scansCells()) {
                return cellCount;
            }
            return scansIdentity() ? IDENTITY_BITS : 1;
        }

        /** Takes a bit in and gives the one that leaves. */
        int shiftInstruction(int in) {
            int out = instructionContent & 1;
            instructionContent = (instructionContent >> 1) | (in << (instructionBits - 1));
            return out;
        }

        /** Takes a bit in and gives the one that leaves. */
        int shiftData(int in) {
            int out = dataContent & 1;
            dataContent = (dataContent >> 1) | (in << (dataBits() - 1));
            return out;
        }

        void updateLatches() {
            if (scansCells()) {
                latches = dataContent;
            }
        }

        int number(int what) {
            switch (what) {
                case 0: return instructionBits;
                case 1: return identity;
                case 2: return cellCount;
                case 3: return instruction;
                case 4: return dataBits();
                case 5: return instructionContent;
                case 6: return dataContent;
                case 7: return latches;
                default: return BAD;
            }
        }
    }

    /** A state to which back() can return: the chips, the faults and the port. */
    private static final class Board {
        final Chip[] chips = new Chip[CHIPS];
        int chipCount;
        final int[] faults = new int[FAULTS];
        int faultCount;
        int portState;
        int usedNets;
        int outputNets;

        Board() {
            for (int c = 0; c < CHIPS; c++) {
                chips[c] = new Chip();
            }
        }

        void copyFrom(Board other) {
            for (int c = 0; c < other.chipCount; c++) {
                chips[c].copyFrom(other.chips[c]);
            }
            chipCount = other.chipCount;
            System.arraycopy(other.faults, 0, faults, 0, FAULTS);
            faultCount = other.faultCount;
            portState = other.portState;
            usedNets = other.usedNets;
            outputNets = other.outputNets;
        }

        boolean hasChip(int c) {
            return c >= 0 && c < chipCount;
        }

        boolean hasCell(int c, int k) {
            return hasChip(c) && k >= 0 && k < chips[c].cellCount;
        }

        int addChip(int bits, int d) {
            if (bits < 2 || bits > 4 || d < 0 || d > NO_IDENTITY) {
                return BAD;
            }
            if (chipCount >= CHIPS) {
                return FULL;
            }
            chips[chipCount].begin(bits, d);
            chipCount++;
            return chipCount - 1;
        }

        int addCell(int c, int kind, int n) {
            if (!hasChip(c) || !isBit(kind) || !isNet(n)) {
                return BAD;
            }
            int k = chips[c].addCell(kind, n);
            if (k >= 0) {
                usedNets |= 1 << n;
                outputNets |= kind << n;
            }
            return k;
        }

        int addOpen(int c, int k) {
            return hasCell(c, k) ? addFault(faultCode(OPEN, c, k)) : BAD;
        }

        int addStuck(int n, int v) {
            return isNet(n) && isBit(v) ? addFault(faultCode(STUCK, n, v)) : BAD;
        }

        int addShort(int a, int b, int kind) {
            if (!isNet(a) || !isNet(b) || a == b || !isBit(kind)) {
                return BAD;
            }
            int code = faultCode(kind == 0 ? SHORT_AND : SHORT_OR, Math.min(a, b), Math.max(a, b));
            return addFault(code);
        }

        private int addFault(int code) {
            if (faultCount >= FAULTS) {
                return FULL;
            }
            faults[faultCount] = code;
            faultCount++;
            return faultCount;
        }

        int dropFaults() {
            int dropped = faultCount;
            faultCount = 0;
            return dropped;
        }

        /** Does a clock; answers TDO, NO_TDO or BAD. */
        int tick(int tms, int tdi, Nets nets) {
            if (!isBit(tms) || !isBit(tdi)) {
                return BAD;
            }
            int tdo = NO_TDO;
            switch (portState) {
                case RESET: resetChips(); break;
                case CAPTURE_IR: captureInstructions(); break;
                case CAPTURE_DR: captureData(nets); break;
                case UPDATE_IR: updateInstructions(); break;
                case UPDATE_DR: updateLatches(); break;
                case SHIFT_IR: tdo = shiftInstructions(tdi); break;
                case SHIFT_DR: tdo = shiftData(tdi); break;
                default: break;
            }
            portState = NEXT_STATE[2 * portState + tms];
            return tdo;
        }

        private void resetChips() {
            for (int c = 0; c < chipCount; c++) {
                chips[c].reset();
            }
        }

        private void captureInstructions() {
            for (int c = 0; c < chipCount; c++) {
                chips[c].instructionContent = 1;
            }
        }

        private void captureData(Nets nets) {
            nets.settleNow();
            for (int c = 0; c < chipCount; c++) {
                Chip at = chips[c];
                if (at.scansCells()) {
                    at.dataContent = nets.seenByInputs(c) | (at.latches & at.outputs);
                } else {
                    at.dataContent = at.scansIdentity() ? at.identity : 0;
                }
            }
        }

        private void updateInstructions() {
            for (int c = 0; c < chipCount; c++) {
                chips[c].instruction = chips[c].instructionContent;
            }
        }

        private void updateLatches() {
            for (int c = 0; c < chipCount; c++) {
                chips[c].updateLatches();
            }
        }

        private int shiftInstructions(int tdi) {
            int bit = tdi;
            for (int c = 0; c < chipCount; c++) {
                bit = chips[c].shiftInstruction(bit);
            }
            return bit;
        }

        private int shiftData(int tdi) {
            int bit = tdi;
            for (int c = 0; c < chipCount; c++) {
                bit = chips[c].shiftData(bit);
            }
            return bit;
        }

        int dataBits() {
            int bits = 0;
            for (int c = 0; c < chipCount; c++) {
                bits += chips[c].dataBits();
            }
            return bits;
        }

        int instructionBits() {
            int bits = 0;
            for (int c = 0; c < chipCount; c++) {
                bits += chips[c].instructionBits;
            }
            return bits;
        }

        int cellCount() {
            int cells = 0;
            for (int c = 0; c < chipCount; c++) {
                cells += chips[c].cellCount;
            }
            return cells;
        }

        int number(int what) {
            switch (what) {
                case 0: return chipCount;
                case 1: return cellCount();
                case 2: return faultCount;
                case 3: return usedNets;
                case 4: return outputNets;
                default: return BAD;
            }
        }
    }

    /**
     * The values of the nets. A value is a word with a bit for each pattern of a test, so that all
     * patterns are settled at once; the values of now are words of one bit.
     */
    private static final class Nets {
        private final Board board;
        private final int[] words = new int[NETS];
        private final int[] openCells = new int[CHIPS];
        private boolean someOpen;
        private int allOnes;
        int fighting;

        Nets(Board board) {
            this.board = board;
        }

        void settleNow() {
            allOnes = 1;
            findOpenCells(board.faults, board.faultCount);
            driveByLatches();
            applyShorts(board.faults, board.faultCount);
            applyStuck(board.faults, board.faultCount);
        }

        /** As if the faults, of which there are n, were those of the board. */
        void settleInTest(int[] stimuli, int ones, int[] faults, int n) {
            allOnes = ones;
            findOpenCells(faults, n);
            driveByStimuli(stimuli, someOpen ? netsOfSoundOutputs() : board.outputNets);
            applyShorts(faults, n);
            applyStuck(faults, n);
        }

        private void findOpenCells(int[] faults, int n) {
            someOpen = false;
            for (int c = 0; c < CHIPS; c++) {
                openCells[c] = 0;
            }
            for (int i = 0; i < n; i++) {
                if (kindOf(faults[i]) == OPEN) {
                    someOpen = true;
                    openCells[tensOf(faults[i])] |= 1 << onesOf(faults[i]);
                }
            }
        }

        /** The outputs of a chip that are not open, as a set of cells. */
        private int soundOutputs(int c) {
            return board.chips[c].outputs & ~openCells[c];
        }

        private void driveByLatches() {
            int atZero = 0;
            int atOne = 0;
            for (int c = 0; c < board.chipCount; c++) {
                Chip at = board.chips[c];
                int driving = at.instruction == EXTEST ? soundOutputs(c) : 0;
                for (int k = 0; k < at.cellCount; k++) {
                    if (isMember(driving & at.latches, k)) {
                        atOne |= 1 << at.netOf[k];
                    } else if (isMember(driving, k)) {
                        atZero |= 1 << at.netOf[k];
                    }
                }
            }
            fighting = atZero & atOne;
            for (int n = 0; n < NETS; n++) {
                words[n] = isMember(atZero, n) ? 0 : 1;
            }
        }

        private int netsOfSoundOutputs() {
            int driven = 0;
            for (int c = 0; c < board.chipCount; c++) {
                Chip at = board.chips[c];
                int driving = soundOutputs(c);
                for (int k = 0; k < at.cellCount; k++) {
                    if (isMember(driving, k)) {
                        driven |= 1 << at.netOf[k];
                    }
                }
            }
            return driven;
        }

        /** All outputs at a net have the same stimulus, so that it is the value of a driven net. */
        private void driveByStimuli(int[] stimuli, int driven) {
            for (int n = 0; n < NETS; n++) {
                words[n] = isMember(driven, n) ? stimuli[n] : allOnes;
            }
        }

        private void applyShorts(int[] faults, int n) {
            for (int i = 0; i < n; i++) {
                int kind = kindOf(faults[i]);
                if (kind == SHORT_AND || kind == SHORT_OR) {
                    int a = tensOf(faults[i]);
                    int b = onesOf(faults[i]);
                    int both = kind == SHORT_AND ? words[a] & words[b] : words[a] | words[b];
                    words[a] = both;
                    words[b] = both;
                }
            }
        }

        private void applyStuck(int[] faults, int n) {
            for (int i = 0; i < n; i++) {
                if (kindOf(faults[i]) == STUCK) {
                    words[tensOf(faults[i])] = onesOf(faults[i]) == 1 ? allOnes : 0;
                }
            }
        }

        /** What an input sees of the values that were settled last. */
        int seenBy(int c, int k) {
            return isMember(openCells[c], k) ? allOnes : words[board.chips[c].netOf[k]];
        }

        /** The number whose bit k is what cell k sees now, with 0 for outputs. */
        int seenByInputs(int c) {
            Chip at = board.chips[c];
            int bits = 0;
            for (int k = 0; k < at.cellCount; k++) {
                if (!at.isOutput(k)) {
                    bits |= seenBy(c, k) << k;
                }
            }
            return bits;
        }

        int netsAtOne() {
            int set = 0;
            for (int n = 0; n < NETS; n++) {
                set |= words[n] << n;
            }
            return set;
        }
    }

    /** The interconnect tests of a board; it has nets of its own, so that those of now stay. */
    private static final class Tester {
        private final Board board;
        private final Nets nets;
        private final int[] stimuli = new int[NETS];
        private final int[] answers = new int[CHIPS * CELLS];
        private final int[] onlyFault = new int[1];
        final int[] codes = new int[CANDIDATES];
        private int codeCount;
        private int allOnes;

        Tester(Board board) {
            this.board = board;
            nets = new Nets(board);
        }

        int patternCount(int t) {
            return codeBits(board.outputNets) << t;
        }

        /** The word whose bit i is the latch of the outputs at a net in pattern i. */
        int stimulus(int t, int n) {
            return stimulusAt(t, n, board.outputNets);
        }

        private static int codeBits(int outputNets) {
            int needed = Integer.bitCount(outputNets) + 2;
            int bits = 1;
            while (bits < NETS && (1 << bits) < needed) {
                bits++;
            }
            return bits;
        }

        private static int stimulusAt(int t, int n, int outputNets) {
            int bits = codeBits(outputNets);
            int netsUpToThis = (2 << n) - 1;
            int code = Integer.bitCount(outputNets & netsUpToThis);
            int inverted = (1 << bits) - 1 - code;
            return t == 0 ? code : code | (inverted << bits);
        }

        private void prepare(int t) {
            int outputNets = board.outputNets;
            allOnes = (1 << (codeBits(outputNets) << t)) - 1;
            for (int n = 0; n < NETS; n++) {
                stimuli[n] = stimulusAt(t, n, outputNets);
            }
        }

        int presentAnswer(int t, int c, int k) {
            prepare(t);
            nets.settleInTest(stimuli, allOnes, board.faults, board.faultCount);
            return nets.seenBy(c, k);
        }

        private void noteAnswers() {
            nets.settleInTest(stimuli, allOnes, board.faults, board.faultCount);
            for (int c = 0; c < board.chipCount; c++) {
                for (int k = 0; k < board.chips[c].cellCount; k++) {
                    answers[c * CELLS + k] = nets.seenBy(c, k);
                }
            }
        }

        /** Whether a fault alone (or none, for NO_FAULT) would give the answers that were noted. */
        private boolean explains(int code) {
            onlyFault[0] = code;
            nets.settleInTest(stimuli, allOnes, onlyFault, code == NO_FAULT ? 0 : 1);
            for (int c = 0; c < board.chipCount; c++) {
                Chip at = board.chips[c];
                for (int k = 0; k < at.cellCount; k++) {
                    if (!at.isOutput(k) && nets.seenBy(c, k) != answers[c * CELLS + k]) {
                        return false;
                    }
                }
            }
            return true;
        }

        boolean showsFaults(int t) {
            prepare(t);
            noteAnswers();
            return !explains(NO_FAULT);
        }

        /** Puts the suspects into the row of codes and answers how many there are. */
        int findSuspects(int t) {
            prepare(t);
            noteAnswers();
            listCandidates();
            int found = 0;
            for (int i = 0; i < codeCount; i++) {
                if (explains(codes[i])) {
                    codes[found] = codes[i];
                    found++;
                }
            }
            return found;
        }

        private void listCandidates() {
            int used = board.usedNets;
            codeCount = 0;
            list(NO_FAULT);
            listOpenCells();
            listStuckNets(used);
            listShorts(SHORT_AND, used);
            listShorts(SHORT_OR, used);
        }

        private void list(int code) {
            if (codeCount < CANDIDATES) {
                codes[codeCount] = code;
                codeCount++;
            }
        }

        private void listOpenCells() {
            for (int c = 0; c < board.chipCount; c++) {
                for (int k = 0; k < board.chips[c].cellCount; k++) {
                    list(faultCode(OPEN, c, k));
                }
            }
        }

        private void listStuckNets(int used) {
            for (int n = 0; n < NETS; n++) {
                if (isMember(used, n)) {
                    list(faultCode(STUCK, n, 0));
                    list(faultCode(STUCK, n, 1));
                }
            }
        }

        private void listShorts(int kind, int used) {
            for (int a = 0; a < NETS; a++) {
                for (int b = a + 1; b < NETS; b++) {
                    if (isMember(used, a) && isMember(used, b)) {
                        list(faultCode(kind, a, b));
                    }
                }
            }
        }
    }

    /**
     * The latest states, as a ring. It has one place more than the states that are kept: the mark,
     * where an act puts the state before it, and which is kept only if the act succeeds.
     */
    private static final class History {
        private static final int PLACES = STATES_KEPT + 1;
        private final Board[] places = new Board[PLACES];
        private int markPlace;
        int kept;

        History() {
            for (int i = 0; i < PLACES; i++) {
                places[i] = new Board();
            }
        }

        void mark(Board board) {
            places[markPlace].copyFrom(board);
        }

        void keepMark() {
            markPlace = (markPlace + 1) % PLACES;
            kept = Math.min(kept + 1, STATES_KEPT);
        }

        void returnToMark(Board board) {
            board.copyFrom(places[markPlace]);
        }

        int takeBack(Board board) {
            if (kept == 0) {
                return NO;
            }
            markPlace = (markPlace + PLACES - 1) % PLACES;
            kept--;
            returnToMark(board);
            return kept;
        }
    }

    /** The text buffer, and the orders that were read from it last. */
    private static final class Text {
        private final byte[] bytes = new byte[TEXT_BYTES];
        int length;
        final byte[] letters = new byte[ORDERS];
        final int[] numbers = new int[ORDERS * ORDER_NUMBERS];
        int orderCount;
        private boolean inOrder;
        private int wanted;
        private int begun;
        private int digits;

        int append(int c) {
            if (c < 0 || c > 127) {
                return BAD;
            }
            if (length >= TEXT_BYTES) {
                return FULL;
            }
            bytes[length] = (byte) c;
            length++;
            return length;
        }

        int drop() {
            int dropped = length;
            length = 0;
            return dropped;
        }

        /** Reads the orders; answers the fault of the text, or NONE. */
        int parse() {
            orderCount = 0;
            inOrder = false;
            for (int i = 0; i < length; i++) {
                if (!takes(bytes[i])) {
                    return i;
                }
            }
            return inOrder || orderCount == 0 ? length : NONE;
        }

        private boolean takes(int c) {
            if (c == ' ') {
                digits = 0;
                return true;
            }
            if (!inOrder) {
                return takesLetter(c);
            }
            if (c == ';') {
                return takesEnd();
            }
            return c >= '0' && c <= '9' && takesDigit(c - '0');
        }

        private boolean takesLetter(int c) {
            wanted = numbersOf(c);
            if (wanted == NONE || orderCount >= ORDERS) {
                return false;
            }
            letters[orderCount] = (byte) c;
            for (int i = 0; i < ORDER_NUMBERS; i++) {
                numbers[orderCount * ORDER_NUMBERS + i] = 0;
            }
            inOrder = true;
            begun = 0;
            digits = 0;
            return true;
        }

        /** How many numbers follow a letter, or NONE if no order begins with it. */
        private static int numbersOf(int letter) {
            switch (letter) {
                case 'h': return 0;
                case 'c': case 'k': case 'o': case 'u': return 2;
                case 'p': case 's': return 3;
                default: return NONE;
            }
        }

        private boolean takesEnd() {
            if (begun != wanted) {
                return false;
            }
            orderCount++;
            inOrder = false;
            return true;
        }

        private boolean takesDigit(int digit) {
            if (digits == 0) {
                if (begun == wanted) {
                    return false;
                }
                begun++;
            } else if (digits == NUMBER_DIGITS) {
                return false;
            }
            int place = orderCount * ORDER_NUMBERS + begun - 1;
            numbers[place] = 10 * numbers[place] + digit;
            digits++;
            return true;
        }
    }
}
