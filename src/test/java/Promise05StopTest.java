final class Promise05StopTest {
    public static void main(String[] args) {
        onlyTheStateChanges();
        aStoppedGuestMakesNoStep();
        whatIsStoppedOrOutsideIsNot();
        Check.end();
    }

    private static void onlyTheStateChanges() {
        ControlProgram x = Scene.busy();
        ControlProgram as = Scene.busy();
        Check.due("stop a RUNNING guest", x.stop(0), true);
        Check.due("stop a WAITING guest", x.stop(1), true);
        for (int g = 0; g < 3; g++) {
            Check.due("state", x.guest(g, 0), ControlProgram.STOPPED);
            for (int what = 1; what <= 10; what++) {
                Check.due("guest(" + g + ", " + what + ")", x.guest(g, what), as.guest(g, what));
            }
            Check.due("frames", Look.frames(x, g), Look.frames(as, g));
        }
        Check.due("turn(false)", x.turn(false), 2);
        Check.due("turn(true)", x.turn(true), 1);
    }

    private static void aStoppedGuestMakesNoStep() {
        ControlProgram x = new ControlProgram();
        x.start(0, 8);
        x.start(1, 8);
        x.run(2);
        x.stop(0);
        Check.due("run", x.run(6), 6);
        Check.due("steps", x.guest(0, 9), 2);
        Check.due("steps", x.guest(1, 9), 6);
        x.stop(1);
        Check.due("run", x.run(6), 0);
        x.start(2, 32 + Code.ENABLED);
        x.post(2, 1);
        x.stop(2);
        Check.due("not even an interrupt", x.run(6), 0);
    }

    private static void whatIsStoppedOrOutsideIsNot() {
        ControlProgram x = Scene.busy();
        Check.due("stop(2)", x.stop(2), false);
        for (int g : new int[] {-1, 3, Integer.MIN_VALUE, Integer.MAX_VALUE}) {
            Check.due("stop(" + g + ")", x.stop(g), false);
        }
        Check.due("looks", Look.at(x), Look.at(Scene.busy()));
    }
}
