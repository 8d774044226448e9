final class Promise09BackTest {
    public static void main(String[] args) {
        for (int from = 0; from < 3; from++) {
            for (int to = 0; to < 3; to++) {
                aGuestBecomesWhatWasKept(from, to);
            }
        }
        itCanBeTakenBackAgainAndAgain();
        countsGoOn();
        framesThatGetFreeAreFilledFirst();
        wrongOnesTakeNothingBack();
        Check.end();
    }

    private static void aGuestBecomesWhatWasKept(int from, int to) {
        String name = "keep(" + from + ", 0), back(" + to + ", 0)";
        ControlProgram x = Scene.busy();
        ControlProgram as = Scene.busy();
        x.keep(from, 0);
        Check.due(name, x.back(to, 0), true);
        Check.due(name + " to", Look.image(x, to), Look.image(as, from));
        Check.due(name + " frames", Look.frames(x, to), "frames -1 -1 -1 -1 -1 -1 -1 -1\n");
        for (int g = 0; g < 3; g++) {
            Check.due(name + " counts", Look.counts(x, g), Look.counts(as, g));
            if (g != to) {
                Check.due(name + " other", Look.image(x, g), Look.image(as, g));
                Check.due(name + " other's frames", Look.frames(x, g), Look.frames(as, g));
            }
        }
        Check.due(name + " told", x.told(0), as.told(0));
        Check.due(name + " turn(false)", x.turn(false), 2);
        Check.due(name + " turn(true)", x.turn(true), 1);
    }

    private static void itCanBeTakenBackAgainAndAgain() {
        ControlProgram x = Scene.busy();
        ControlProgram as = Scene.busy();
        x.keep(0, 1);
        x.back(2, 1);
        x.store(2, 24, 0);
        x.stop(2);
        x.store(0, 24, 0);
        x.start(0, 1);
        Check.due("back", x.back(2, 1), true);
        Check.due("guest 2", Look.image(x, 2), Look.image(as, 0));
        Check.due("back", x.back(0, 1), true);
        Check.due("guest 0", Look.image(x, 0), Look.image(as, 0));
    }

    private static void countsGoOn() {
        ControlProgram x = new ControlProgram();
        x.store(0, 24, Code.call(1, 2));
        x.start(0, 24);
        x.keep(0, 0);
        x.run(1);
        x.back(0, 0);
        x.run(1);
        Check.due("pagings", x.guest(0, 8), 4);
        Check.due("steps", x.guest(0, 9), 2);
        Check.due("interrupts", x.guest(0, 10), 2);
    }

    private static void framesThatGetFreeAreFilledFirst() {
        ControlProgram x = Scene.fullFrames();
        x.run(1);
        Check.due("frame", x.frame(1, 7), 0);
        x.keep(1, 0);
        x.back(1, 0);
        Check.due("frame", x.frame(1, 7), -1);
        x.run(1);
        Check.due("frame 0 was free, though page 2 of guest 0 was used longest ago", x.frame(1, 7), 0);
        Check.due("frame", x.frame(0, 2), 1);
    }

    private static void wrongOnesTakeNothingBack() {
        ControlProgram x = Scene.busy();
        x.keep(0, 0);
        Check.due("nothing was kept", x.back(1, 1), false);
        for (int wrong : new int[] {-1, 3, 4, Integer.MIN_VALUE, Integer.MAX_VALUE}) {
            Check.due("back(" + wrong + ", 0)", x.back(wrong, 0), false);
            Check.due("back(0, " + wrong + ")", x.back(0, wrong), false);
        }
        Check.due("back(0, 2)", x.back(0, 2), false);
        Check.due("looks", Look.at(x), Look.at(Scene.busy()));
    }
}
