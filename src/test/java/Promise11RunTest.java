/** How many steps are made, and who makes them; what a step does stands in the other tests of promise 11. */
final class Promise11RunTest {
    public static void main(String[] args) {
        itMakesTheStepsAskedFor();
        itEndsWhenNoGuestCanMakeAStep();
        outsideNoStepIsMade();
        guestsTakeTurnsOfFour();
        guestsThatCannotAreLeftOut();
        aWaitingGuestComesInWhenItCanBeInterrupted();
        theSameOneIsLast();
        aNewTurnBeginsWithTheNextStep();
        Check.end();
    }

    private static void itMakesTheStepsAskedFor() {
        ControlProgram x = new ControlProgram();
        x.start(1, 24);
        Check.due("run(0)", x.run(0), 0);
        Check.due("turn(false)", x.turn(false), 0);
        Check.due("run(1)", x.run(1), 1);
        Check.due("run(100)", x.run(100), 100);
        Check.due("run(7)", x.run(7), 7);
        Check.due("steps", x.guest(1, 9), 108);
        Check.due("PSW", x.guest(1, 1), (24 + 108) % 64);
    }

    private static void itEndsWhenNoGuestCanMakeAStep() {
        ControlProgram x = new ControlProgram();
        Scene.program(x, 0, 24, Code.set(0, 1), Code.set(0, 2), Code.waits());
        x.store(1, 24, Code.waits());
        x.start(0, 24);
        x.start(1, 24);
        Check.due("run(100)", x.run(100), 4);
        Check.due("run(100)", x.run(100), 0);
        Check.due("turn(false)", x.turn(false), 1);
        Check.due("turn(true)", x.turn(true), 3);
    }

    private static void outsideNoStepIsMade() {
        ControlProgram x = Scene.busy();
        for (int n : new int[] {-1, 101, Integer.MIN_VALUE, Integer.MAX_VALUE}) {
            Check.due("run(" + n + ")", x.run(n), ControlProgram.BAD);
        }
        Check.due("looks", Look.at(x), Look.at(Scene.busy()));
    }

    private static void guestsTakeTurnsOfFour() {
        ControlProgram x = new ControlProgram();
        x.start(0, 24);
        x.start(1, 24);
        x.start(2, 24);
        int[] made = new int[3];
        for (int step = 0; step < 30; step++) {
            int g = step / 4 % 3;
            made[g]++;
            x.run(1);
            Check.due("steps of " + g, x.guest(g, 9), made[g]);
            Check.due("turn(false)", x.turn(false), g);
            Check.due("turn(true)", x.turn(true), 3 - step % 4);
        }
    }

    private static void guestsThatCannotAreLeftOut() {
        ControlProgram x = new ControlProgram();
        x.start(0, 24);
        x.store(1, 24, Code.waits());
        x.start(1, 24);
        x.start(2, 24);
        x.run(4);
        x.run(1);
        Check.due("the guest waits", x.guest(1, 0), ControlProgram.WAITING);
        x.run(1);
        Check.due("and gives the rest of its turn away", x.turn(false), 2);
        Check.due("turn(true)", x.turn(true), 3);
        x.run(4);
        Check.due("turn(false)", x.turn(false), 0);
        x.run(4);
        Check.due("turn(false): 1 is left out", x.turn(false), 2);
        x.stop(2);
        x.run(1);
        Check.due("turn(false)", x.turn(false), 0);
        Check.due("turn(true)", x.turn(true), 3);
    }

    private static void aWaitingGuestComesInWhenItCanBeInterrupted() {
        ControlProgram x = new ControlProgram();
        x.start(0, 24);
        x.store(1, 24, Code.waits());
        x.store(1, 11, 24);
        x.start(1, 24 + Code.ENABLED);
        x.store(2, 24, Code.waits());
        x.start(2, 24);
        x.run(8);
        Check.due("turn(false)", x.turn(false), 0);
        x.post(1, 3);
        x.post(2, 3);
        x.run(2);
        Check.due("its turn goes on", x.turn(false), 0);
        x.run(1);
        Check.due("then the interrupted one", x.turn(false), 1);
        Check.due("state", x.guest(1, 0), ControlProgram.RUNNING);
        Check.due("PSW kept", x.word(1, 8), 25 + Code.ENABLED);
        x.run(1);
        Check.due("state", x.guest(1, 0), ControlProgram.WAITING);
        Check.due("turn(true)", x.turn(true), 2);
        x.run(1);
        Check.due("2 is not ENABLED", x.turn(false), 0);
        Check.due("state", x.guest(2, 0), ControlProgram.WAITING);
        Check.due("pending", x.guest(2, 7), 3);
    }

    private static void theSameOneIsLast() {
        ControlProgram x = new ControlProgram();
        x.store(2, 24, Code.waits());
        x.store(2, 11, 40);
        x.start(2, 24 + Code.ENABLED);
        x.run(1);
        Check.due("turn(true)", x.turn(true), 3);
        x.post(2, 1);
        x.start(1, 24);
        x.run(1);
        Check.due("turn(false)", x.turn(false), 1);
        x.stop(1);
        x.run(1);
        Check.due("turn(false)", x.turn(false), 2);
        x.start(2, 24 + Code.ENABLED);
        x.run(1);
        Check.due("turn(true)", x.turn(true), 2);
        x.post(2, 1);
        x.run(1);
        Check.due("the same one has a new turn", x.turn(false), 2);
        Check.due("turn(true)", x.turn(true), 3);
    }

    private static void aNewTurnBeginsWithTheNextStep() {
        ControlProgram x = new ControlProgram();
        x.start(0, 24);
        x.start(1, 24);
        x.run(4);
        Check.due("turn(false)", x.turn(false), 0);
        Check.due("turn(true)", x.turn(true), 0);
        x.stop(1);
        x.run(1);
        Check.due("turn(false)", x.turn(false), 0);
        Check.due("turn(true)", x.turn(true), 3);
        x.stop(0);
        x.run(5);
        Check.due("the turn stays", x.turn(false), 0);
        Check.due("turn(true)", x.turn(true), 3);
    }
}
