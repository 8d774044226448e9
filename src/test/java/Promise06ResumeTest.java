final class Promise06ResumeTest {
    public static void main(String[] args) {
        onlyTheStateChanges();
        aWaitingGuestThatWasStoppedRuns();
        aTurnGoesOn();
        whatIsNotStoppedOrOutsideIsNot();
        Check.end();
    }

    private static void onlyTheStateChanges() {
        ControlProgram x = Scene.busy();
        ControlProgram as = Scene.busy();
        x.post(2, 8);
        as.post(2, 8);
        Check.due("resume", x.resume(2), true);
        Check.due("state", x.guest(2, 0), ControlProgram.RUNNING);
        for (int what = 1; what <= 10; what++) {
            Check.due("guest(2, " + what + ")", x.guest(2, what), as.guest(2, what));
        }
        Check.due("frames", Look.frames(x, 2), Look.frames(as, 2));
        Check.due("again", x.resume(2), false);
        ControlProgram fresh = new ControlProgram();
        Check.due("resume a guest never started", fresh.resume(1), true);
        Check.due("run", fresh.run(3), 3);
        Check.due("PSW", fresh.guest(1, 1), 3);
    }

    private static void aWaitingGuestThatWasStoppedRuns() {
        ControlProgram x = Scene.busy();
        x.stop(1);
        Check.due("resume", x.resume(1), true);
        Check.due("state", x.guest(1, 0), ControlProgram.RUNNING);
        Check.due("pending", x.guest(1, 7), 44);
        Check.due("PSW", x.guest(1, 1), 36);
    }

    private static void aTurnGoesOn() {
        ControlProgram x = new ControlProgram();
        x.start(0, 8);
        x.start(1, 8);
        x.run(3);
        x.stop(0);
        x.resume(0);
        x.run(1);
        Check.due("steps", x.guest(0, 9), 4);
        Check.due("turn(true)", x.turn(true), 0);
    }

    private static void whatIsNotStoppedOrOutsideIsNot() {
        ControlProgram x = Scene.busy();
        Check.due("resume a RUNNING guest", x.resume(0), false);
        Check.due("resume a WAITING guest", x.resume(1), false);
        for (int g : new int[] {-1, 3, Integer.MIN_VALUE, Integer.MAX_VALUE}) {
            Check.due("resume(" + g + ")", x.resume(g), false);
        }
        Check.due("looks", Look.at(x), Look.at(Scene.busy()));
    }
}
