final class Promise16TurnTest {
    public static void main(String[] args) {
        itTellsTheGuestAndTheStepsLeft();
        otherCallsLeaveTheTurn();
        Check.end();
    }

    private static void itTellsTheGuestAndTheStepsLeft() {
        ControlProgram x = new ControlProgram();
        Check.turn(x, 0, 4);
        x.start(2, 24);
        Check.turn(x, 0, 4);
        x.run(1);
        Check.turn(x, 2, 3);
        x.run(3);
        Check.turn(x, 2, 0);
        x.run(1);
        Check.turn(x, 2, 3);
        x.start(1, 24);
        x.run(3);
        Check.turn(x, 2, 0);
        x.run(2);
        Check.turn(x, 1, 2);
        x.run(0);
        Check.turn(x, 1, 2);
        x.run(101);
        Check.turn(x, 1, 2);
    }

    private static void otherCallsLeaveTheTurn() {
        ControlProgram x = Scene.busy();
        x.start(2, 24);
        x.stop(2);
        x.resume(2);
        x.copy(0, 2);
        x.keep(1, 0);
        x.back(2, 0);
        x.post(2, 5);
        x.store(2, 0, 1);
        Check.turn(x, 2, 1);
        x.copy(0, 2);
        x.run(1);
        Check.turn(x, 2, 0);
    }
}
