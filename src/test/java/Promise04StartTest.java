final class Promise04StartTest {
    public static void main(String[] args) {
        aGuestIsMadeNew();
        otherThingsStay();
        anyStateCanBeStarted();
        onlyThePswBitsAreLookedAt();
        outsideNothingStarts();
        Check.end();
    }

    private static void aGuestIsMadeNew() {
        ControlProgram x = Scene.busy();
        x.post(0, 3);
        Check.due("start", x.start(0, 24 + Code.PROBLEM + Code.ENABLED), true);
        Check.due("state", x.guest(0, 0), ControlProgram.RUNNING);
        Check.due("PSW", x.guest(0, 1), 344);
        for (int what = 2; what <= 6; what++) {
            Check.due("guest(0, " + what + ")", x.guest(0, what), 0);
        }
        Check.due("pending", x.guest(0, 7), -1);
        for (int what = 8; what <= 10; what++) {
            Check.due("guest(0, " + what + ")", x.guest(0, what), 0);
        }
        x.start(2, 16);
        Check.due("interrupts since start", x.guest(2, 10), 0);
    }

    private static void otherThingsStay() {
        ControlProgram x = Scene.busy();
        ControlProgram as = Scene.busy();
        x.start(0, 24);
        Check.due("frames", Look.frames(x, 0), Look.frames(as, 0));
        for (int a = 0; a < 64; a++) {
            Check.due("word", x.word(0, a), as.word(0, a));
        }
        Check.due("guest 1", Look.image(x, 1) + Look.counts(x, 1), Look.image(as, 1) + Look.counts(as, 1));
        Check.due("guest 2", Look.counts(x, 2), Look.counts(as, 2));
        x.start(1, 32);
        for (int what = 0; what <= 10; what++) {
            Check.due("guest(2, " + what + ")", x.guest(2, what), as.guest(2, what));
        }
        Check.due("turn(false)", x.turn(false), 2);
        Check.due("turn(true)", x.turn(true), 1);
        Check.due("told", x.told(0), as.told(0));
        x.start(2, 16);
        Check.due("turn(true)", x.turn(true), 1);
        x.run(1);
        Check.due("turn(true)", x.turn(true), 0);
        Check.due("pagings: the page is still in its frame", x.guest(2, 8), 0);
    }

    private static void anyStateCanBeStarted() {
        ControlProgram x = Scene.busy();
        for (int g = 0; g < 3; g++) {
            Check.due("start", x.start(g, 5), true);
            Check.due("state", x.guest(g, 0), ControlProgram.RUNNING);
            Check.due("PSW", x.guest(g, 1), 5);
        }
    }

    private static void onlyThePswBitsAreLookedAt() {
        ControlProgram x = new ControlProgram();
        x.start(0, -1);
        Check.due("PSW", x.guest(0, 1), 511);
        x.start(0, 512 + 7);
        Check.due("PSW", x.guest(0, 1), 7);
        x.start(0, Integer.MIN_VALUE);
        Check.due("PSW", x.guest(0, 1), 0);
    }

    private static void outsideNothingStarts() {
        ControlProgram x = Scene.busy();
        for (int g : new int[] {-1, 3, Integer.MIN_VALUE, Integer.MAX_VALUE}) {
            Check.due("start(" + g + ", 0)", x.start(g, 0), false);
        }
        Check.due("looks", Look.at(x), Look.at(Scene.busy()));
    }
}
