/**
 * Lets three guests run, each as if on a machine of its own.
 *
 * <p>A guest and a kept guest are both an "image" here: images 0..2 are the guests, images 3 and 4
 * the slots. So copy, keep and back are the same act between two images.
 */
public final class ControlProgram {
    public static final int STOPPED = 0, RUNNING = 1, WAITING = 2, BAD = -1;

    private static final int NONE = -1;

    private static final int GUESTS = 3;
    private static final int SLOTS = 2;
    private static final int IMAGES = GUESTS + SLOTS;
    private static final int PAGES = 8;
    private static final int PAGE_WORDS = 8;
    private static final int WORDS = PAGES * PAGE_WORDS;
    private static final int REGISTERS = 4;
    private static final int FRAMES = 6;
    private static final int TOLD_KEPT = 8;
    private static final int ALL_WORDS = IMAGES * WORDS;
    private static final int ALL_REGISTERS = IMAGES * REGISTERS;

    private static final int MOST_STEPS = 100;
    private static final int TURN_STEPS = 4;
    private static final int GREATEST_CODE = 255;

    private static final int ADDRESS_BITS = 63;
    private static final int PROBLEM = 64;
    private static final int MAPPED = 128;
    private static final int ENABLED = 256;
    private static final int PSW_BITS = 511;

    private static final int CALL_INTERRUPT = 0;
    private static final int PROGRAM_INTERRUPT = 1;
    private static final int EXTERNAL_INTERRUPT = 2;

    private static final int NO_INSTRUCTION = 1;
    private static final int NOT_FOR_PROBLEM = 2;
    private static final int NOT_THERE = 4;
    private static final int NOT_FOR_WRITING = 5;

    private static final int LOAD = 0;
    private static final int STORE = 1;
    private static final int ADD = 2;
    private static final int SET = 3;
    private static final int MORE = 4;
    private static final int GO = 5;
    private static final int ZERO = 6;
    private static final int BELOW = 7;
    private static final int FETCH = 8;
    private static final int PLACE = 9;
    private static final int CALL = 10;
    private static final int PSW = 11;
    private static final int TABLE = 12;
    private static final int TELL = 13;
    private static final int WAIT = 14;
    private static final int LAST_OP = 15;

    private static final long TOLD_GUEST = 8589934592L;
    private static final long TOLD_INT = 4294967296L;

    private final int[] storage = new int[ALL_WORDS];
    private final int[] registers = new int[ALL_REGISTERS];
    private final int[] psws = new int[IMAGES];
    private final int[] tables = new int[IMAGES];
    private final int[] pending = new int[IMAGES];
    private final int[] states = new int[IMAGES];
    private final boolean[] kept = new boolean[SLOTS];

    private final int[] pagings = new int[GUESTS];
    private final int[] steps = new int[GUESTS];
    private final int[] interrupts = new int[GUESTS];

    // A page's number is 8 times its guest plus its number there. A free frame was used at 0, before
    // any other, so that the least recently used frame is also the right one while some are free.
    private final int[] pageIn = new int[FRAMES];
    private final long[] usedAt = new long[FRAMES];
    private long uses = 0;

    private final long[] lastTold = new long[TOLD_KEPT];

    private int turnGuest = 0;
    private int stepsLeft = TURN_STEPS;

    public ControlProgram() {
        for (int i = 0; i < IMAGES; i++) {
            pending[i] = NONE;
        }
        for (int f = 0; f < FRAMES; f++) {
            pageIn[f] = NONE;
        }
        for (int k = 0; k < TOLD_KEPT; k++) {
            lastTold[k] = NONE;
        }
    }

    public boolean store(int g, int a, int w) {
        if (!isGuest(g) || !isAddress(a)) {
            return false;
        }
        storage[g * WORDS + a] = w;
        return true;
    }

    public int word(int g, int a) {
        if (!isGuest(g) || !isAddress(a)) {
            return 0;
        }
        return storage[g * WORDS + a];
    }

    public boolean start(int g, int psw) {
        if (!isGuest(g)) {
            return false;
        }
        psws[g] = psw & PSW_BITS;
        for (int r = 0; r < REGISTERS; r++) {
            registers[g * REGISTERS + r] = 0;
        }
        tables[g] = 0;
        pending[g] = NONE;
        states[g] = RUNNING;
        clearCounts(g);
        return true;
    }

    public boolean stop(int g) {
        if (!isGuest(g) || states[g] == STOPPED) {
            return false;
        }
        states[g] = STOPPED;
        return true;
    }

    public boolean resume(int g) {
        if (!isGuest(g) || states[g] != STOPPED) {
            return false;
        }
        states[g] = RUNNING;
        return true;
    }

    public boolean copy(int from, int to) {
        if (!isGuest(from) || !isGuest(to) || from == to) {
            return false;
        }
        copyImage(from, to);
        clearCounts(to);
        freeFrames(to);
        return true;
    }

    public boolean keep(int g, int slot) {
        if (!isGuest(g) || !isSlot(slot)) {
            return false;
        }
        copyImage(g, GUESTS + slot);
        kept[slot] = true;
        return true;
    }

    public boolean back(int g, int slot) {
        if (!isGuest(g) || !isSlot(slot) || !kept[slot]) {
            return false;
        }
        copyImage(GUESTS + slot, g);
        freeFrames(g);
        return true;
    }

    public boolean post(int g, int code) {
        if (!isGuest(g) || code < 0 || code > GREATEST_CODE) {
            return false;
        }
        pending[g] = code;
        return true;
    }

    public int run(int n) {
        if (n < 0 || n > MOST_STEPS) {
            return BAD;
        }
        for (int made = 0; made < n; made++) {
            if (!findTurn()) {
                return made;
            }
            step(turnGuest);
            stepsLeft--;
        }
        return n;
    }

    public int guest(int g, int what) {
        if (!isGuest(g)) {
            return 0;
        }
        switch (what) {
            case 0: return states[g];
            case 1: return psws[g];
            case 2: return tables[g];
            case 3:
            case 4:
            case 5:
            case 6: return registers[g * REGISTERS + what - 3];
            case 7: return pending[g];
            case 8: return pagings[g];
            case 9: return steps[g];
            case 10: return interrupts[g];
            default: return 0;
        }
    }

    public int frame(int g, int p) {
        if (!isGuest(g) || p < 0 || p >= PAGES) {
            return BAD - 1;
        }
        for (int f = 0; f < FRAMES; f++) {
            if (pageIn[f] == g * PAGES + p) {
                return f;
            }
        }
        return NONE;
    }

    public int leads(int g, int a, boolean writing) {
        if (!isGuest(g)) {
            return BAD;
        }
        return placeOf(g, a & ADDRESS_BITS, writing);
    }

    public long told(int k) {
        if (k < 0 || k >= TOLD_KEPT) {
            return NONE;
        }
        return lastTold[k];
    }

    public int turn(boolean left) {
        return left ? stepsLeft : turnGuest;
    }

    private static boolean isGuest(int g) {
        return g >= 0 && g < GUESTS;
    }

    private static boolean isAddress(int a) {
        return a >= 0 && a < WORDS;
    }

    private static boolean isSlot(int slot) {
        return slot >= 0 && slot < SLOTS;
    }

    private void copyImage(int from, int to) {
        for (int a = 0; a < WORDS; a++) {
            storage[to * WORDS + a] = storage[from * WORDS + a];
        }
        for (int r = 0; r < REGISTERS; r++) {
            registers[to * REGISTERS + r] = registers[from * REGISTERS + r];
        }
        psws[to] = psws[from];
        tables[to] = tables[from];
        pending[to] = pending[from];
        states[to] = states[from];
    }

    private void clearCounts(int g) {
        pagings[g] = 0;
        steps[g] = 0;
        interrupts[g] = 0;
    }

    private void freeFrames(int g) {
        for (int f = 0; f < FRAMES; f++) {
            if (pageIn[f] != NONE && pageIn[f] / PAGES == g) {
                pageIn[f] = NONE;
                usedAt[f] = 0;
            }
        }
    }

    /** Gives the turn on if its guest can't go on; false if no guest can make a step. */
    private boolean findTurn() {
        if (states[turnGuest] == RUNNING && stepsLeft > 0) {
            return true;
        }
        for (int i = 1; i <= GUESTS; i++) {
            int g = (turnGuest + i) % GUESTS;
            if (canStep(g)) {
                turnGuest = g;
                stepsLeft = TURN_STEPS;
                return true;
            }
        }
        return false;
    }

    private boolean canStep(int g) {
        return states[g] == RUNNING || (states[g] == WAITING && takesExternal(g));
    }

    private boolean takesExternal(int g) {
        return (psws[g] & ENABLED) != 0 && pending[g] != NONE;
    }

    private void step(int g) {
        steps[g]++;
        if (takesExternal(g)) {
            int code = pending[g];
            pending[g] = NONE;
            interrupt(g, EXTERNAL_INTERRUPT, code, 0);
            return;
        }
        int at = psws[g] & ADDRESS_BITS;
        int i = access(g, at, false);
        if (i == NONE) {
            return;
        }
        int w = storage[i];
        int op = w & 15;
        if (op == LAST_OP) {
            interrupt(g, PROGRAM_INTERRUPT, NO_INSTRUCTION, at);
        } else if (op >= PSW && (psws[g] & PROBLEM) != 0) {
            interrupt(g, PROGRAM_INTERRUPT, NOT_FOR_PROBLEM, at);
        } else if (op <= ADD || op == FETCH || op == PLACE || op == PSW) {
            carryOutWithWord(g, w);
        } else {
            carryOutAlone(g, w);
        }
    }

    /** The instructions that access a word beside their own. */
    private void carryOutWithWord(int g, int w) {
        int op = w & 15;
        int r = g * REGISTERS + ((w >> 4) & 3);
        int a = (w >> 6) & ADDRESS_BITS;
        if (op == FETCH || op == PLACE) {
            a = registers[g * REGISTERS + ((w >> 12) & 3)] & ADDRESS_BITS;
        }
        int i = access(g, a, op == STORE || op == PLACE);
        if (i == NONE) {
            return;
        }
        if (op == PSW) {
            psws[g] = storage[i] & PSW_BITS;
            return;
        }
        if (op == LOAD || op == FETCH) {
            registers[r] = storage[i];
        } else if (op == ADD) {
            registers[r] += storage[i];
        } else {
            storage[i] = registers[r];
        }
        goOnAt(g, psws[g] + 1);
    }

    private void carryOutAlone(int g, int w) {
        int r = g * REGISTERS + ((w >> 4) & 3);
        int a = (w >> 6) & ADDRESS_BITS;
        int c = w >> 12;
        // First, since a CALL keeps the address of the next instruction.
        goOnAt(g, psws[g] + 1);
        switch (w & 15) {
            case SET:
                registers[r] = c;
                break;
            case MORE:
                registers[r] += c;
                break;
            case GO:
                goOnAt(g, a);
                break;
            case ZERO:
                if (registers[r] == 0) {
                    goOnAt(g, a);
                }
                break;
            case BELOW:
                if (registers[r] < 0) {
                    goOnAt(g, a);
                }
                break;
            case CALL:
                interrupt(g, CALL_INTERRUPT, c & 255, a);
                break;
            case TABLE:
                tables[g] = registers[r] & ADDRESS_BITS;
                break;
            case TELL:
                tell(g, registers[r]);
                break;
            case WAIT:
                states[g] = WAITING;
                break;
            default:
                break;
        }
    }

    private void goOnAt(int g, int a) {
        psws[g] = (psws[g] & ~ADDRESS_BITS) | (a & ADDRESS_BITS);
    }

    private void tell(int g, int value) {
        for (int k = TOLD_KEPT - 1; k > 0; k--) {
            lastTold[k] = lastTold[k - 1];
        }
        lastTold[0] = TOLD_GUEST * g + value + TOLD_INT;
    }

    /** The index in storage of the word that address a leads to; NONE if a PROGRAM interrupt was made instead. */
    private int access(int g, int a, boolean writing) {
        int place = placeOf(g, a, writing);
        if (place < 0) {
            interrupt(g, PROGRAM_INTERRUPT, -place, a);
            return NONE;
        }
        use(g, place);
        return g * WORDS + place;
    }

    /** The address in the storage that address a (0..63) leads to, or the negative PROGRAM code. */
    private int placeOf(int g, int a, boolean writing) {
        if ((psws[g] & MAPPED) == 0) {
            return a;
        }
        int entry = storage[g * WORDS + ((tables[g] + a / PAGE_WORDS) & ADDRESS_BITS)];
        if ((entry & 1) == 0) {
            return -NOT_THERE;
        }
        if (writing && (entry & 2) != 0) {
            return -NOT_FOR_WRITING;
        }
        return ((entry >> 2) & 7) * PAGE_WORDS + a % PAGE_WORDS;
    }

    private void interrupt(int g, int i, int code, int address) {
        int first = 4 * i;
        int base = g * WORDS + first;
        // One use stands for the four: they lie in one page, with nothing used between them.
        use(g, first);
        storage[base] = psws[g];
        storage[base + 1] = code;
        storage[base + 2] = address;
        psws[g] = storage[base + 3] & PSW_BITS;
        states[g] = RUNNING;
        interrupts[g]++;
    }

    private void use(int g, int a) {
        int page = g * PAGES + a / PAGE_WORDS;
        int f = 0;
        for (int i = 1; i < FRAMES; i++) {
            if (usedAt[i] < usedAt[f]) {
                f = i;
            }
        }
        for (int i = 0; i < FRAMES; i++) {
            if (pageIn[i] == page) {
                f = i;
            }
        }
        if (pageIn[f] != page) {
            pageIn[f] = page;
            pagings[g]++;
        }
        uses++;
        usedAt[f] = uses;
    }
}
