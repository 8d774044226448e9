/** Program interrupts, CALL and external interrupts: what they keep, and that nothing else is done. */
final class Promise11InterruptsTest {
    private static final int PROBLEM_ONLY_FROM = 11;

    public static void main(String[] args) {
        noInstruction();
        supervisorInstructionsInAProgram();
        otherInstructionsInAProgram();
        callKeepsTheNextAddress();
        externalComesBeforeTheInstruction();
        externalWakesOneThatWaits();
        newPswBitsAlone();
        interruptsAreOfTheStorageNotTheMapped();
        Check.end();
    }

    private static void noInstruction() {
        for (int mode : new int[] {0, Code.PROBLEM}) {
            ControlProgram x = new ControlProgram();
            x.store(0, 7, 33);
            x.store(0, 20, Code.NO_INSTRUCTION | -5 << 4);
            x.start(0, 20 + mode);
            x.run(1);
            Check.kept(x, 1, 20 + mode, 1, 20);
            Check.due("PSW", x.guest(0, 1), 33);
            Check.due("interrupts", x.guest(0, 10), 1);
            Check.due("steps", x.guest(0, 9), 1);
            Check.due("state", x.guest(0, 0), ControlProgram.RUNNING);
        }
    }

    private static void supervisorInstructionsInAProgram() {
        int[] words = {Code.psw(40), Code.table(1), Code.tell(1), Code.waits()};
        for (int word : words) {
            ControlProgram x = new ControlProgram();
            x.store(0, 7, 33);
            Scene.program(x, 0, 20, Code.set(1, 9), word);
            x.start(0, 20 + Code.PROBLEM);
            x.run(2);
            Check.kept(x, 1, 21 + Code.PROBLEM, 2, 21);
            Check.due("PSW", x.guest(0, 1), 33);
            Check.due("TABLE", x.guest(0, 2), 0);
            Check.due("told", x.told(0), -1);
            Check.due("state", x.guest(0, 0), ControlProgram.RUNNING);
            Check.due("interrupts", x.guest(0, 10), 1);
            Check.due("the word at a is not used", x.frame(0, 5), -1);
        }
    }

    private static void otherInstructionsInAProgram() {
        for (int op = 0; op < PROBLEM_ONLY_FROM; op++) {
            ControlProgram x = new ControlProgram();
            x.store(0, 20, op | 60 << 6);
            x.start(0, 20 + Code.PROBLEM);
            x.run(1);
            Check.due("interrupts of " + op, x.guest(0, 10), op == 10 ? 1 : 0);
        }
    }

    private static void callKeepsTheNextAddress() {
        ControlProgram x = new ControlProgram();
        x.store(0, 3, 40 + Code.ENABLED);
        Scene.program(x, 0, 19, Code.set(0, 9), Code.call(-1, 45));
        x.start(0, 19 + Code.PROBLEM);
        x.run(2);
        Check.kept(x, 0, 21 + Code.PROBLEM, 255, 45);
        Check.due("PSW", x.guest(0, 1), 40 + Code.ENABLED);
        Check.due("interrupts", x.guest(0, 10), 1);
        Check.due("register", x.guest(0, 3), 9);
        Check.due("TABLE", x.guest(0, 2), 0);
        Check.due("the address is not used", x.frame(0, 5), -1);
        x.store(0, 63, Code.call(256 + 3, 0));
        x.start(0, 63);
        x.run(1);
        Check.kept(x, 0, 0, 3, 0);
    }

    private static void externalComesBeforeTheInstruction() {
        ControlProgram x = new ControlProgram();
        x.store(0, 11, 40 + Code.ENABLED);
        x.store(0, 20, Code.set(0, 9));
        x.start(0, 20 + Code.ENABLED + Code.PROBLEM);
        x.post(0, 0);
        x.store(0, 10, 77);
        x.run(1);
        Check.kept(x, 2, 20 + Code.ENABLED + Code.PROBLEM, 0, 0);
        Check.due("nothing was carried out", x.guest(0, 3), 0);
        Check.due("nor used", x.frame(0, 2), -1);
        Check.due("pending", x.guest(0, 7), -1);
        Check.due("PSW", x.guest(0, 1), 40 + Code.ENABLED);
        Check.due("steps", x.guest(0, 9), 1);
        ControlProgram y = new ControlProgram();
        y.start(0, 20);
        y.post(0, 4);
        y.run(3);
        Check.due("not ENABLED: interrupts", y.guest(0, 10), 0);
        Check.due("not ENABLED: pending", y.guest(0, 7), 4);
    }

    private static void externalWakesOneThatWaits() {
        ControlProgram x = new ControlProgram();
        x.store(0, 11, 40);
        x.store(0, 20, Code.waits());
        x.start(0, 20 + Code.ENABLED);
        Check.due("run", x.run(9), 1);
        x.post(0, 6);
        Check.due("run", x.run(1), 1);
        Check.kept(x, 2, 21 + Code.ENABLED, 6, 0);
        Check.due("state", x.guest(0, 0), ControlProgram.RUNNING);
        Check.due("PSW", x.guest(0, 1), 40);
    }

    private static void newPswBitsAlone() {
        ControlProgram x = new ControlProgram();
        x.store(0, 7, -1);
        x.store(0, 20, Code.NO_INSTRUCTION);
        x.start(0, 20);
        x.run(1);
        Check.due("PSW", x.guest(0, 1), 511);
    }

    private static void interruptsAreOfTheStorageNotTheMapped() {
        ControlProgram x = new ControlProgram();
        // TABLE is 0: pages 0 and 1 lead to page 5, page 2 to itself, locked.
        x.store(0, 0, Code.entry(5, false));
        x.store(0, 1, Code.entry(5, false));
        x.store(0, 2, Code.entry(2, true));
        x.store(0, 7, 33);
        x.store(0, 20, Code.NO_INSTRUCTION);
        x.start(0, 20 + Code.MAPPED);
        x.run(1);
        Check.kept(x, 1, 20 + Code.MAPPED, 1, 20);
        Check.due("PSW", x.guest(0, 1), 33);
        Check.due("frame", x.frame(0, 0), 1);
        Check.due("frame", x.frame(0, 5), -1);
    }
}
