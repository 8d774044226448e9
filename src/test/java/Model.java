import java.util.ArrayDeque;
import java.util.ArrayList;
import java.util.Arrays;
import java.util.Deque;
import java.util.List;

/**
 * A second program for the same document, written with the Java library and in another way, to compare answers with.
 */
final class Model {
    private static final class ProgramInterrupt extends Exception {
        private static final long serialVersionUID = 1L;
        final int code;
        final int at;

        ProgramInterrupt(int code, int at) {
            this.code = code;
            this.at = at;
        }
    }

    private static final class Guest {
        int[] storage = new int[64];
        int[] registers = new int[4];
        int address;
        boolean problem;
        boolean mapped;
        boolean enabled;
        int table;
        Integer pending;
        String state = "STOPPED";
        int pagings;
        int steps;
        int interrupts;

        int psw() {
            return address + (problem ? 64 : 0) + (mapped ? 128 : 0) + (enabled ? 256 : 0);
        }

        void setPsw(int word) {
            address = word & 0x3f;
            problem = (word >> 6 & 1) == 1;
            mapped = (word >> 7 & 1) == 1;
            enabled = (word >> 8 & 1) == 1;
        }

        void become(Guest other) {
            storage = other.storage.clone();
            registers = other.registers.clone();
            setPsw(other.psw());
            table = other.table;
            pending = other.pending;
            state = other.state;
        }

        void clearCounts() {
            pagings = 0;
            steps = 0;
            interrupts = 0;
        }

        int resolve(int anyAddress, boolean writing) throws ProgramInterrupt {
            int a = Math.floorMod(anyAddress, 64);
            if (!mapped) {
                return a;
            }
            int entry = storage[Math.floorMod(table + a / 8, 64)];
            if (entry % 2 == 0) {
                throw new ProgramInterrupt(4, a);
            }
            if (writing && Math.floorMod(entry, 4) >= 2) {
                throw new ProgramInterrupt(5, a);
            }
            return Math.floorMod(entry, 32) / 4 * 8 + a % 8;
        }
    }

    private final Guest[] guests = {new Guest(), new Guest(), new Guest()};
    private final Guest[] slots = new Guest[2];
    private final String[] frames = new String[6];
    /** Pages in frames, the one used longest ago first. */
    private final List<String> byUse = new ArrayList<>();
    private final Deque<Long> told = new ArrayDeque<>();
    private int turn = 0;
    private int left = 4;

    private boolean isGuest(int g) {
        return g == 0 || g == 1 || g == 2;
    }

    boolean store(int g, int a, int w) {
        if (!isGuest(g) || a < 0 || a > 63) {
            return false;
        }
        guests[g].storage[a] = w;
        return true;
    }

    int word(int g, int a) {
        return isGuest(g) && a >= 0 && a <= 63 ? guests[g].storage[a] : 0;
    }

    boolean start(int g, int psw) {
        if (!isGuest(g)) {
            return false;
        }
        Guest guest = guests[g];
        guest.setPsw(psw);
        guest.registers = new int[4];
        guest.table = 0;
        guest.pending = null;
        guest.state = "RUNNING";
        guest.clearCounts();
        return true;
    }

    boolean stop(int g) {
        if (!isGuest(g) || guests[g].state.equals("STOPPED")) {
            return false;
        }
        guests[g].state = "STOPPED";
        return true;
    }

    boolean resume(int g) {
        if (!isGuest(g) || !guests[g].state.equals("STOPPED")) {
            return false;
        }
        guests[g].state = "RUNNING";
        return true;
    }

    boolean copy(int from, int to) {
        if (!isGuest(from) || !isGuest(to) || from == to) {
            return false;
        }
        guests[to].become(guests[from]);
        guests[to].clearCounts();
        takeOut(to);
        return true;
    }

    boolean keep(int g, int slot) {
        if (!isGuest(g) || slot < 0 || slot > 1) {
            return false;
        }
        slots[slot] = new Guest();
        slots[slot].become(guests[g]);
        return true;
    }

    boolean back(int g, int slot) {
        if (!isGuest(g) || slot < 0 || slot > 1 || slots[slot] == null) {
            return false;
        }
        guests[g].become(slots[slot]);
        takeOut(g);
        return true;
    }

    boolean post(int g, int code) {
        if (!isGuest(g) || code < 0 || code > 255) {
            return false;
        }
        guests[g].pending = code;
        return true;
    }

    int run(int n) {
        if (n < 0 || n > 100) {
            return -1;
        }
        int made = 0;
        while (made < n) {
            if (!guests[turn].state.equals("RUNNING") || left == 0) {
                int next = nextGuest();
                if (next < 0) {
                    break;
                }
                turn = next;
                left = 4;
            }
            left--;
            made++;
            step(turn);
        }
        return made;
    }

    private int nextGuest() {
        int[][] orders = {{1, 2, 0}, {2, 0, 1}, {0, 1, 2}};
        for (int g : orders[turn]) {
            Guest guest = guests[g];
            boolean wakes = guest.state.equals("WAITING") && guest.enabled && guest.pending != null;
            if (guest.state.equals("RUNNING") || wakes) {
                return g;
            }
        }
        return -1;
    }

    private void step(int g) {
        Guest guest = guests[g];
        guest.steps++;
        if (guest.enabled && guest.pending != null) {
            int code = guest.pending;
            guest.pending = null;
            interrupt(g, 2, code, 0);
            return;
        }
        try {
            int at = guest.address;
            int place = guest.resolve(at, false);
            use(g, place);
            carryOut(g, guest.storage[place], at);
        } catch (ProgramInterrupt p) {
            interrupt(g, 1, p.code, p.at);
        }
    }

    private int read(int g, int a) throws ProgramInterrupt {
        int place = guests[g].resolve(a, false);
        use(g, place);
        return guests[g].storage[place];
    }

    private void write(int g, int a, int w) throws ProgramInterrupt {
        int place = guests[g].resolve(a, true);
        use(g, place);
        guests[g].storage[place] = w;
    }

    private void carryOut(int g, int w, int at) throws ProgramInterrupt {
        Guest guest = guests[g];
        int[] regs = guest.registers;
        int op = w & 0xf;
        int r = w >>> 4 & 3;
        int a = w >>> 6 & 0x3f;
        int c = w >> 12;
        int next = (at + 1) % 64;
        if (op == 15) {
            throw new ProgramInterrupt(1, at);
        }
        if (op >= 11 && guest.problem) {
            throw new ProgramInterrupt(2, at);
        }
        switch (op) {
            case 0 -> regs[r] = read(g, a);
            case 1 -> write(g, a, regs[r]);
            case 2 -> regs[r] += read(g, a);
            case 3 -> regs[r] = c;
            case 4 -> regs[r] += c;
            case 5 -> next = a;
            case 6 -> next = regs[r] == 0 ? a : next;
            case 7 -> next = regs[r] < 0 ? a : next;
            case 8 -> regs[r] = read(g, regs[c & 3]);
            case 9 -> write(g, regs[c & 3], regs[r]);
            case 12 -> guest.table = regs[r] & 0x3f;
            case 13 -> {
                told.addFirst(8589934592L * g + regs[r] + 4294967296L);
                if (told.size() > 8) {
                    told.removeLast();
                }
            }
            case 14 -> guest.state = "WAITING";
            default -> {
            }
        }
        if (op == 11) {
            guest.setPsw(read(g, a));
        } else {
            guest.address = next;
        }
        if (op == 10) {
            interrupt(g, 0, c & 0xff, a);
        }
    }

    private void interrupt(int g, int i, int code, int address) {
        Guest guest = guests[g];
        int[] words = {guest.psw(), code, address};
        for (int j = 0; j < 3; j++) {
            use(g, 4 * i + j);
            guest.storage[4 * i + j] = words[j];
        }
        use(g, 4 * i + 3);
        guest.setPsw(guest.storage[4 * i + 3]);
        if (guest.state.equals("WAITING")) {
            guest.state = "RUNNING";
        }
        guest.interrupts++;
    }

    private static String page(int g, int p) {
        return g + "." + p;
    }

    private void use(int g, int a) {
        String page = page(g, a / 8);
        if (!byUse.remove(page)) {
            int f = Arrays.asList(frames).indexOf(null);
            if (f < 0) {
                f = Arrays.asList(frames).indexOf(byUse.remove(0));
            }
            frames[f] = page;
            guests[g].pagings++;
        }
        byUse.add(page);
    }

    private void takeOut(int g) {
        byUse.removeIf(page -> page.startsWith(g + "."));
        for (int f = 0; f < 6; f++) {
            if (frames[f] != null && frames[f].startsWith(g + ".")) {
                frames[f] = null;
            }
        }
    }

    int guest(int g, int what) {
        if (!isGuest(g) || what < 0 || what > 10) {
            return 0;
        }
        Guest guest = guests[g];
        int[] all = {
            Arrays.asList("STOPPED", "RUNNING", "WAITING").indexOf(guest.state), guest.psw(), guest.table,
            guest.registers[0], guest.registers[1], guest.registers[2], guest.registers[3],
            guest.pending == null ? -1 : guest.pending, guest.pagings, guest.steps, guest.interrupts,
        };
        return all[what];
    }

    int frame(int g, int p) {
        return isGuest(g) && p >= 0 && p < 8 ? Arrays.asList(frames).indexOf(page(g, p)) : -2;
    }

    int leads(int g, int a, boolean writing) {
        if (!isGuest(g)) {
            return -1;
        }
        try {
            return guests[g].resolve(a, writing);
        } catch (ProgramInterrupt p) {
            return -p.code;
        }
    }

    long told(int k) {
        return k < 0 || k >= told.size() ? -1 : new ArrayList<>(told).get(k);
    }

    int turn(boolean ofLeft) {
        return ofLeft ? left : turn;
    }
}
