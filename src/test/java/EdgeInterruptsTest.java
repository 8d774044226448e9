/** Terms: program and other interrupts. */
final class EdgeInterruptsTest {
    public static void main(String[] args) {
        Edge.of(Sentence.PROGRAM)
            .at("an instruction at the first address", () -> programKeepsItsOwnAddress(0))
            .at("an instruction at the last address", () -> programKeepsItsOwnAddress(63))
            .at("a word that is not there: the instruction's address is kept", EdgeInterruptsTest::wordNotThere)
            .at("all bits of the PSW", EdgeInterruptsTest::programKeepsAllBits)
            .at("nothing else is done: LOAD, ADD, FETCH", EdgeInterruptsTest::registersStay)
            .at("nothing else is done: STORE, PLACE", EdgeInterruptsTest::wordsStay)
            .at("nothing else is done: a pending code stays", EdgeInterruptsTest::pendingStays)
            .at("one PROGRAM behind the other", EdgeInterruptsTest::programAfterProgram);
        Edge.of(Sentence.OTHER_ADDRESSES)
            .at("CALL at the first address", () -> callKeeps(0, 1))
            .at("CALL at the last address", () -> callKeeps(63, 0))
            .at("INTERRUPT 2 at the first address", () -> externalKeeps(0))
            .at("INTERRUPT 2 at the last address", () -> externalKeeps(63))
            .at("INTERRUPT 2 before the same instruction again", EdgeInterruptsTest::carriedOutAfterwards);
        Edge.of(Sentence.AFTER_WAIT)
            .at("WAIT at the first address", () -> afterWait(0, 1))
            .at("WAIT at the last address", () -> afterWait(63, 0));
        Edge.of(Sentence.INTERRUPT)
            .at("i 0: the words 0 to 3 alone", () -> wordsOf(0))
            .at("i 1: the words 4 to 7 alone", () -> wordsOf(1))
            .at("i 2: the words 8 to 11 alone", () -> wordsOf(2))
            .at("the page of i 0", () -> pageOf(0, "0.2 0.0 - - - -"))
            .at("the page of i 1", () -> pageOf(1, "0.2 0.0 - - - -"))
            .at("the page of i 2", () -> pageOf(2, "0.1 - - - - -"))
            .at("no frame free", EdgeInterruptsTest::noFrameFree)
            .at("MAPPED: the words are not led to by the table", EdgeInterruptsTest::notByTheTable)
            .at("the instruction stands in the words that are kept", EdgeInterruptsTest::overItsOwnInstruction)
            .at("the new PSW was never stored: it is 0", EdgeInterruptsTest::newPswOfNought)
            .at("a WAITING guest", EdgeInterruptsTest::waitingGuestRuns)
            .at("the new PSW refuses at once", EdgeInterruptsTest::newPswRefuses)
            .at("registers and TABLE stay", EdgeInterruptsTest::registersAndTableStay);
        Check.end();
    }

    private static void programKeepsItsOwnAddress(int at) {
        ControlProgram x = Scene.began(at, Code.NO_INSTRUCTION);
        x.store(0, 7, 40);
        x.run(1);
        Check.kept(x, 1, at, 1, at);
        Check.due("PSW", x.guest(0, 1), 40);
    }

    private static void wordNotThere() {
        ControlProgram x = Scene.mapped(32, 5, 0, Code.load(1, 47));
        x.run(1);
        Check.kept(x, 1, Scene.mappedPsw(5), 4, 47);
    }

    private static void programKeepsAllBits() {
        ControlProgram x = Scene.began(511);
        x.run(1);
        Check.kept(x, 1, 511, 4, 63);
    }

    private static void registersStay() {
        for (int op : new int[] {0, 2, 8}) {
            ControlProgram x = Scene.mapped(32, 5, 0, Code.set(1, 40));
            x.store(0, 25, Code.word(op, 1, 40, 1));
            x.run(2);
            Check.due("code", x.word(0, 5), 4);
            Check.due("register", x.guest(0, 4), 40);
            Check.due("steps", x.guest(0, 9), 5);
        }
    }

    private static void wordsStay() {
        for (int op : new int[] {1, 9}) {
            ControlProgram x = Scene.mapped(32, 5, Code.entry(7, true), Code.set(1, 40));
            x.store(0, 25, Code.word(op, 1, 40, 1));
            x.store(0, 56, 8);
            x.run(2);
            Check.due("code", x.word(0, 5), 5);
            Check.due("the word led to", x.word(0, 56), 8);
            Check.due("the word of this address", x.word(0, 40), 0);
        }
    }

    private static void pendingStays() {
        ControlProgram x = Scene.began(16, Code.NO_INSTRUCTION);
        x.post(0, 0);
        x.run(1);
        Check.due("pending", x.guest(0, 7), 0);
        Check.due("interrupts", x.guest(0, 10), 1);
    }

    private static void programAfterProgram() {
        ControlProgram x = Scene.began(16, Code.NO_INSTRUCTION);
        x.store(0, 7, 40 + Code.PROBLEM);
        x.store(0, 40, Code.waits());
        x.run(2);
        Check.kept(x, 1, 40 + Code.PROBLEM, 2, 40);
        Check.due("interrupts", x.guest(0, 10), 2);
        Check.due("steps", x.guest(0, 9), 2);
    }

    private static void callKeeps(int at, int next) {
        int bits = Code.PROBLEM + Code.ENABLED;
        ControlProgram x = Scene.began(at + bits, Code.call(5, 6));
        x.run(1);
        Check.kept(x, 0, next + bits, 5, 6);
    }

    private static void externalKeeps(int at) {
        ControlProgram x = Scene.began(at + Code.ENABLED, Code.set(0, 1));
        x.post(0, 5);
        x.run(1);
        Check.kept(x, 2, at + Code.ENABLED, 5, 0);
    }

    private static void carriedOutAfterwards() {
        ControlProgram x = Scene.began(16 + Code.ENABLED, Code.more(0, 1));
        x.store(0, 11, 40);
        x.store(0, 40, Code.psw(8));
        x.post(0, 5);
        x.run(3);
        Check.due("carried out once", x.guest(0, 3), 1);
        Check.due("PSW", x.guest(0, 1), 17 + Code.ENABLED);
    }

    private static void afterWait(int at, int next) {
        ControlProgram x = Scene.began(at + Code.ENABLED, Code.waits());
        x.run(1);
        Check.due("PSW", x.guest(0, 1), next + Code.ENABLED);
        x.post(0, 5);
        x.run(1);
        Check.kept(x, 2, next + Code.ENABLED, 5, 0);
    }

    /** Guest 0 at 16 with every word from 0 to 12 being 1000 and more, before the one step that is interrupt i. */
    private static ControlProgram before(int i) {
        int[] words = {Code.call(9, 33), Code.NO_INSTRUCTION, Code.set(0, 1)};
        ControlProgram x = Scene.began(16 + Code.ENABLED, words[i]);
        for (int a = 0; a <= 12; a++) {
            x.store(0, a, 1000 + a);
        }
        if (i == 2) {
            x.post(0, 200);
        }
        return x;
    }

    private static void wordsOf(int i) {
        int[][] due = {{17 + Code.ENABLED, 9, 33}, {16 + Code.ENABLED, 1, 16}, {16 + Code.ENABLED, 200, 0}};
        ControlProgram x = before(i);
        x.run(1);
        for (int a = 0; a <= 12; a++) {
            boolean kept = a >= 4 * i && a < 4 * i + 3;
            Check.due("word " + a, x.word(0, a), kept ? due[i][a - 4 * i] : 1000 + a);
        }
        Check.due("PSW", x.guest(0, 1), 1000 + 4 * i + 3 & 511);
        Check.due("interrupts", x.guest(0, 10), 1);
    }

    private static void pageOf(int i, String due) {
        ControlProgram x = before(i);
        x.run(1);
        Check.due("frames", Look.pages(x), due);
    }

    private static void noFrameFree() {
        ControlProgram x = new ControlProgram();
        for (int p = 0; p < 6; p++) {
            Scene.touch(x, 1, p);
        }
        x.store(0, 16, Code.NO_INSTRUCTION);
        x.store(0, 7, 16 + Code.ENABLED);
        x.start(0, 16);
        x.run(1);
        Check.due("frames", Look.pages(x), "0.2 0.0 1.2 1.3 1.4 1.5");
        x.post(0, 1);
        x.run(1);
        Check.due("frames", Look.pages(x), "0.2 0.0 0.1 1.3 1.4 1.5");
        Check.due("PAGINGS", x.guest(0, 8), 3);
    }

    private static void notByTheTable() {
        ControlProgram x = Scene.mapped(32, 0, Code.entry(6, false), Code.NO_INSTRUCTION);
        x.store(0, 55, 60);
        x.run(1);
        Check.kept(x, 1, Scene.mappedPsw(0), 1, 8);
        Check.due("PSW", x.guest(0, 1), 48);
        Check.due("where the table leads", x.word(0, 52), 0);
        Check.due("frames", Look.pages(x), "0.2 0.3 0.0 - - -");
    }

    private static void overItsOwnInstruction() {
        ControlProgram x = Scene.began(4, Code.NO_INSTRUCTION);
        x.store(0, 7, 40);
        x.run(1);
        Check.kept(x, 1, 4, 1, 4);
        ControlProgram y = Scene.began(3, Code.call(8, 9));
        y.run(1);
        Check.kept(y, 0, 4, 8, 9);
        Check.due("the CALL is the new PSW", y.guest(0, 1), Code.call(8, 9) & 511);
    }

    private static void newPswOfNought() {
        ControlProgram x = Scene.began(16 + Code.PROBLEM, Code.NO_INSTRUCTION);
        x.run(1);
        Check.due("PSW", x.guest(0, 1), 0);
    }

    private static void waitingGuestRuns() {
        ControlProgram x = Scene.began(16 + Code.ENABLED, Code.waits());
        x.store(0, 11, 40);
        x.store(0, 40, Code.set(0, 7));
        x.run(1);
        x.post(0, 0);
        x.run(1);
        Check.due("state", x.guest(0, 0), ControlProgram.RUNNING);
        x.run(1);
        Check.due("SET", x.guest(0, 3), 7);
    }

    private static void newPswRefuses() {
        ControlProgram x = Scene.began(16, Code.NO_INSTRUCTION);
        x.store(0, 7, 40 + Code.MAPPED);
        Check.due("run(100)", x.run(100), 100);
        Check.kept(x, 1, 40 + Code.MAPPED, 4, 40);
        Check.due("interrupts", x.guest(0, 10), 100);
    }

    private static void registersAndTableStay() {
        for (int last : new int[] {Code.call(1, 2), Code.NO_INSTRUCTION}) {
            ControlProgram x = Scene.began(16, Code.set(0, 5), Code.table(0), Code.set(0, 7), Code.set(3, 6), last);
            x.run(5);
            Check.due("register 0", x.guest(0, 3), 7);
            Check.due("register 3", x.guest(0, 6), 6);
            Check.due("TABLE", x.guest(0, 2), 5);
            Check.due("told", x.told(0), -1);
            Check.due("interrupts", x.guest(0, 10), 1);
        }
    }
}
