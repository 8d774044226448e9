/** What each instruction does where no interrupt comes. */
final class Promise11InstructionsTest {
    public static void main(String[] args) {
        loadStoreAdd();
        setAndMore();
        jumps();
        fetchAndPlace();
        pswTableTellWait();
        fieldsThatAreNotMeantAreNotLookedAt();
        theAddressGoesRound();
        modesStayWithTheAddress();
        Check.end();
    }

    private static ControlProgram began(int... words) {
        ControlProgram x = new ControlProgram();
        Scene.program(x, 0, 16, words);
        x.start(0, 16);
        return x;
    }

    private static int register(ControlProgram x, int r) {
        return x.guest(0, 3 + r);
    }

    private static void loadStoreAdd() {
        for (int r = 0; r < 4; r++) {
            ControlProgram x = began(Code.load(r, 63), Code.add(r, 62), Code.store(r, 61));
            x.store(0, 63, Integer.MAX_VALUE);
            x.store(0, 62, 2);
            x.run(1);
            Check.due("LOAD", register(x, r), Integer.MAX_VALUE);
            x.run(1);
            Check.due("ADD goes round", register(x, r), Integer.MIN_VALUE + 1);
            x.run(1);
            Check.due("STORE", x.word(0, 61), Integer.MIN_VALUE + 1);
            Check.due("STORE leaves r", register(x, r), Integer.MIN_VALUE + 1);
            Check.due("PSW", x.guest(0, 1), 19);
            for (int other = 0; other < 4; other++) {
                if (other != r) {
                    Check.due("other register", register(x, other), 0);
                }
            }
        }
    }

    private static void setAndMore() {
        ControlProgram x = began(Code.set(2, -524288), Code.more(2, -1), Code.set(1, 524287), Code.more(1, 524287));
        x.run(1);
        Check.due("SET the least", register(x, 2), -524288);
        x.run(1);
        Check.due("MORE below 0", register(x, 2), -524289);
        x.run(1);
        Check.due("SET the greatest", register(x, 1), 524287);
        x.run(1);
        Check.due("MORE", register(x, 1), 1048574);
        ControlProgram y = began(Code.load(0, 63), Code.more(0, 1));
        y.store(0, 63, Integer.MAX_VALUE);
        y.run(2);
        Check.due("MORE goes round", register(y, 0), Integer.MIN_VALUE);
    }

    private static void jumps() {
        ControlProgram x = began(Code.go(63));
        x.run(1);
        Check.due("GO", x.guest(0, 1), 63);
        int[] values = {0, 1, -1, Integer.MIN_VALUE, Integer.MAX_VALUE};
        for (int value : values) {
            ControlProgram y = began(Code.load(3, 60), Code.zero(3, 40));
            y.store(0, 60, value);
            y.run(2);
            Check.due("ZERO at " + value, y.guest(0, 1), value == 0 ? 40 : 18);
            ControlProgram z = began(Code.load(3, 60), Code.below(3, 40));
            z.store(0, 60, value);
            z.run(2);
            Check.due("BELOW at " + value, z.guest(0, 1), value < 0 ? 40 : 18);
        }
    }

    private static void fetchAndPlace() {
        for (int by = 0; by < 4; by++) {
            int r = (by + 1) % 4;
            ControlProgram x = began(Code.load(by, 60), Code.fetch(r, by), Code.more(r, 1), Code.place(r, by));
            x.store(0, 60, 64 * 5 + 50);
            x.store(0, 50, 7);
            x.run(2);
            Check.due("FETCH", register(x, r), 7);
            Check.due("FETCH leaves the address", register(x, by), 370);
            x.run(2);
            Check.due("PLACE", x.word(0, 50), 8);
        }
        ControlProgram x = began(Code.set(1, -1), Code.place(1, 1), Code.fetch(1, 1));
        x.run(2);
        Check.due("PLACE at -1", x.word(0, 63), -1);
        x.store(0, 63, 5);
        x.run(1);
        Check.due("FETCH by itself", register(x, 1), 5);
        ControlProgram y = began(Code.set(2, 40), Code.fetch(0, 2 - 4), Code.fetch(1, 6));
        y.store(0, 40, 9);
        y.run(3);
        Check.due("FETCH, the lowest 2 bits of c", register(y, 0), 9);
        Check.due("FETCH, the lowest 2 bits of c", register(y, 1), 9);
    }

    private static void pswTableTellWait() {
        ControlProgram x = began(Code.set(1, 64 * 3 + 9), Code.table(1), Code.tell(1), Code.psw(60));
        x.store(0, 60, -1 - 64 - 128);
        x.run(2);
        Check.due("TABLE", x.guest(0, 2), 9);
        Check.due("TABLE tells nothing", x.told(0), -1);
        x.run(1);
        Check.due("TELL", x.told(0), 4294967296L + 201);
        x.run(1);
        Check.due("PSW, its bits alone", x.guest(0, 1), 63 + Code.ENABLED);
        ControlProgram y = began(Code.waits());
        y.run(1);
        Check.due("WAIT", y.guest(0, 0), ControlProgram.WAITING);
        Check.due("WAIT goes on", y.guest(0, 1), 17);
        ControlProgram z = began(Code.set(1, -1), Code.table(1));
        z.run(2);
        Check.due("TABLE of -1", z.guest(0, 2), 63);
    }

    private static void fieldsThatAreNotMeantAreNotLookedAt() {
        int otherA = 33 << 6;
        int otherC = -77 << 12;
        ControlProgram x = began(Code.load(0, 60) | otherC, Code.set(1, 5) | otherA, Code.more(1, 5) | otherA,
            Code.tell(1) | otherA | otherC, Code.go(21) | 3 << 4 | otherC, Code.waits() | 2 << 4 | otherA | otherC);
        x.store(0, 60, 4);
        x.run(6);
        Check.due("LOAD", register(x, 0), 4);
        Check.due("SET and MORE", register(x, 1), 10);
        Check.due("TELL", x.told(0), 4294967306L);
        Check.due("WAIT", x.guest(0, 0), ControlProgram.WAITING);
        Check.due("PSW", x.guest(0, 1), 22);
        Check.due("only two pages were used", x.guest(0, 8), 2);
    }

    private static void theAddressGoesRound() {
        ControlProgram x = new ControlProgram();
        x.store(0, 63, Code.set(0, 3));
        x.start(0, 63 + Code.PROBLEM + Code.ENABLED);
        x.run(1);
        Check.due("PSW", x.guest(0, 1), Code.PROBLEM + Code.ENABLED);
        x.run(1);
        Check.due("a LOAD", x.guest(0, 1), 1 + Code.PROBLEM + Code.ENABLED);
        ControlProgram y = new ControlProgram();
        y.start(0, 63);
        y.run(1);
        Check.due("PSW", y.guest(0, 1), 0);
    }

    private static void modesStayWithTheAddress() {
        ControlProgram x = new ControlProgram();
        x.store(0, 0, Code.entry(2, false));
        Scene.program(x, 0, 16, Code.go(5));
        x.start(0, 448);
        x.run(1);
        Check.due("PSW", x.guest(0, 1), 448 + 5);
    }
}
