/** Terms: who runs, and what was told. */
final class EdgeTurnsTest {
    public static void main(String[] args) {
        Edge.of(Sentence.WHO_RUNS)
            .at("before the first step", () -> Check.turn(new ControlProgram(), 0, 4))
            .at("guest 0 runs: its first turn has 4 steps", EdgeTurnsTest::firstTurn);
        Edge.of(Sentence.NEXT_TURN)
            .at("RUNNING with 1 left: it goes on", EdgeTurnsTest::oneLeft)
            .at("RUNNING with none left: the next one", EdgeTurnsTest::noneLeft)
            .at("the turn passes before the next step, not behind the last", EdgeTurnsTest::passesBeforeAStep)
            .at("WAITING with some left: the next one", EdgeTurnsTest::waitsWithSomeLeft)
            .at("STOPPED with some left: the next one", EdgeTurnsTest::stoppedWithSomeLeft)
            .at("at first, guest 0 STOPPED", EdgeTurnsTest::firstGuestStopped)
            .at("0 behind 2", () -> passes(2, 0, 1))
            .at("1 behind 0", () -> passes(0, 1, 2))
            .at("2 behind 1", () -> passes(1, 2, 0))
            .at("the next one cannot: the one behind it", EdgeTurnsTest::overOneThatCannot)
            .at("no other can: the same one again", EdgeTurnsTest::theSameOneAgain)
            .at("another can: not the same one", EdgeTurnsTest::theSameOneLast)
            .at("WAITING, ENABLED, no code", () -> waiting(Code.ENABLED, -1, false))
            .at("WAITING, not ENABLED, a code", () -> waiting(0, 7, false))
            .at("WAITING, ENABLED, the code 0", () -> waiting(Code.ENABLED, 0, true))
            .at("STOPPED, ENABLED, a code", EdgeTurnsTest::stoppedWithACode)
            .at("the same one WAITING, ENABLED, a code: last", EdgeTurnsTest::theSameOneWaits)
            .at("the same one WAITING, the others RUNNING", EdgeTurnsTest::theSameOneWaitsOthersRun)
            .at("none can, some left: no step, the turn stays", EdgeTurnsTest::noneCanSomeLeft)
            .at("none can, none left: no step, the turn stays", EdgeTurnsTest::noneCanNoneLeft)
            .at("none can at first", EdgeTurnsTest::noneCanAtFirst)
            .at("a step that ends in an interrupt is one of the 4", EdgeTurnsTest::interruptsAreSteps);
        Edge.of(Sentence.TOLD_KEPT)
            .at("nothing told", () -> toldAfter(0))
            .at("one told", () -> toldAfter(1))
            .at("7 told, one less than are kept", () -> toldAfter(7))
            .at("8 told, as many as are kept", () -> toldAfter(8))
            .at("9 told: the first is gone", () -> toldAfter(9))
            .at("17 told", () -> toldAfter(17));
        Check.end();
    }

    /** Guests that are RUNNING and only LOAD, which uses no other page than 3 and 0. */
    private static ControlProgram running(int... guests) {
        ControlProgram x = new ControlProgram();
        for (int g : guests) {
            x.start(g, 24);
        }
        return x;
    }

    private static void firstTurn() {
        ControlProgram x = running(0, 1, 2);
        for (int left = 3; left >= 0; left--) {
            x.run(1);
            Check.turn(x, 0, left);
        }
        Check.due("steps", x.guest(0, 9), 4);
    }

    private static void oneLeft() {
        ControlProgram x = running(0, 1, 2);
        x.run(3);
        Check.turn(x, 0, 1);
        x.run(1);
        Check.turn(x, 0, 0);
        Check.due("steps", x.guest(0, 9), 4);
    }

    private static void noneLeft() {
        ControlProgram x = running(0, 1, 2);
        x.run(5);
        Check.turn(x, 1, 3);
        Check.due("steps of 0", x.guest(0, 9), 4);
        Check.due("steps of 1", x.guest(1, 9), 1);
    }

    private static void passesBeforeAStep() {
        ControlProgram x = running(0, 1);
        x.run(4);
        Check.turn(x, 0, 0);
        x.run(0);
        Check.turn(x, 0, 0);
        x.stop(1);
        x.start(2, 24);
        x.run(1);
        Check.turn(x, 2, 3);
    }

    private static void waitsWithSomeLeft() {
        ControlProgram x = running(0, 1);
        x.store(0, 25, Code.waits());
        x.run(2);
        Check.turn(x, 0, 2);
        x.run(1);
        Check.turn(x, 1, 3);
    }

    private static void stoppedWithSomeLeft() {
        ControlProgram x = running(0, 1);
        x.run(1);
        x.stop(0);
        Check.turn(x, 0, 3);
        x.run(1);
        Check.turn(x, 1, 3);
        Check.due("steps of 0", x.guest(0, 9), 1);
    }

    private static void firstGuestStopped() {
        ControlProgram x = running(1, 2);
        x.run(1);
        Check.turn(x, 1, 3);
    }

    /** All are RUNNING; the turn of guest is over, and next has it before other. */
    private static void passes(int guest, int next, int other) {
        ControlProgram x = running(guest);
        x.run(1);
        x.start(next, 24);
        x.start(other, 24);
        x.run(3);
        Check.turn(x, guest, 0);
        x.run(1);
        Check.turn(x, next, 3);
        x.run(4);
        Check.turn(x, other, 3);
        x.run(4);
        Check.turn(x, guest, 3);
    }

    private static void overOneThatCannot() {
        ControlProgram x = running(0, 2);
        x.run(5);
        Check.turn(x, 2, 3);
        x.run(4);
        Check.turn(x, 0, 3);
    }

    private static void theSameOneAgain() {
        for (int g = 0; g < 3; g++) {
            ControlProgram x = running(g);
            x.run(4);
            Check.turn(x, g, 0);
            x.run(1);
            Check.turn(x, g, 3);
            Check.due("run(100)", x.run(100), 100);
            Check.due("steps", x.guest(g, 9), 105);
        }
    }

    private static void theSameOneLast() {
        ControlProgram x = running(1, 0);
        x.run(4);
        Check.turn(x, 0, 0);
        x.run(4);
        Check.turn(x, 1, 0);
        x.run(1);
        Check.turn(x, 0, 3);
    }

    /** Guest 1 waits with these bits and, if it is not -1, this code; guest 0's turn goes to it or not. */
    private static void waiting(int bits, int code, boolean itsTurn) {
        ControlProgram x = new ControlProgram();
        x.store(1, 24, Code.waits());
        x.store(1, 11, 40);
        x.start(1, 24 + bits);
        x.run(1);
        x.start(0, 24);
        x.run(4);
        Check.turn(x, 0, 0);
        x.post(1, code);
        x.run(1);
        Check.turn(x, itsTurn ? 1 : 0, 3);
        Check.due("steps of 1", x.guest(1, 9), itsTurn ? 2 : 1);
        Check.due("state of 1", x.guest(1, 0), itsTurn ? ControlProgram.RUNNING : ControlProgram.WAITING);
    }

    private static void stoppedWithACode() {
        ControlProgram x = running(0, 1);
        x.start(1, 24 + Code.ENABLED);
        x.post(1, 7);
        x.stop(1);
        x.run(5);
        Check.turn(x, 0, 3);
        Check.due("pending", x.guest(1, 7), 7);
        x.stop(0);
        Check.due("run(1)", x.run(1), 0);
    }

    private static void theSameOneWaits() {
        ControlProgram x = Scene.began(24 + Code.ENABLED, Code.waits());
        x.store(0, 11, 40);
        x.run(1);
        Check.turn(x, 0, 3);
        x.post(0, 7);
        Check.due("run(1)", x.run(1), 1);
        Check.turn(x, 0, 3);
    }

    private static void theSameOneWaitsOthersRun() {
        ControlProgram x = Scene.began(24 + Code.ENABLED, Code.waits());
        x.store(0, 11, 40);
        x.start(2, 24);
        x.run(1);
        x.post(0, 7);
        x.run(1);
        Check.turn(x, 2, 3);
        Check.due("pending", x.guest(0, 7), 7);
        x.run(4);
        Check.turn(x, 0, 3);
        Check.due("pending", x.guest(0, 7), -1);
    }

    private static void noneCanSomeLeft() {
        ControlProgram x = Scene.began(24, Code.set(0, 1), Code.waits());
        Check.due("run(100)", x.run(100), 2);
        Check.turn(x, 0, 2);
        Check.due("run(100)", x.run(100), 0);
        Check.turn(x, 0, 2);
        Check.due("steps", x.guest(0, 9), 2);
    }

    private static void noneCanNoneLeft() {
        ControlProgram x = running(1);
        x.run(4);
        x.stop(1);
        Check.due("run(1)", x.run(1), 0);
        Check.turn(x, 1, 0);
    }

    private static void noneCanAtFirst() {
        ControlProgram x = new ControlProgram();
        Check.due("run(1)", x.run(1), 0);
        Check.turn(x, 0, 4);
    }

    private static void interruptsAreSteps() {
        ControlProgram x = running(0, 1);
        for (int at = 24; at < 28; at++) {
            x.store(0, at, Code.NO_INSTRUCTION);
        }
        x.store(0, 7, 24 + Code.ENABLED);
        x.store(0, 11, 24);
        x.run(2);
        Check.turn(x, 0, 2);
        x.post(0, 5);
        x.run(1);
        Check.turn(x, 0, 1);
        x.run(1);
        Check.due("interrupts", x.guest(0, 10), 4);
        Check.turn(x, 0, 0);
        x.run(1);
        Check.turn(x, 1, 3);
    }

    /** Guest 1 has told 1, 2, 3 and so on. */
    private static void toldAfter(int n) {
        ControlProgram x = new ControlProgram();
        Scene.program(x, 1, 24, Code.more(0, 1), Code.tell(0), Code.go(24));
        x.start(1, 24);
        x.run(3 * n);
        for (int k = 0; k < 8; k++) {
            long due = k < n ? 8589934592L + 4294967296L + n - k : -1;
            Check.due("told(" + k + ")", x.told(k), due);
        }
    }
}
