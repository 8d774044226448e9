final class Promise13FrameTest {
    public static void main(String[] args) {
        theFrameOfEachPage();
        itIsNoUse();
        outside();
        Check.end();
    }

    private static void theFrameOfEachPage() {
        ControlProgram x = Scene.busy();
        Check.due("guest 0", Look.frames(x, 0), "frames -1 -1 -1 0 -1 -1 -1 -1\n");
        Check.due("guest 1", Look.frames(x, 1), "frames -1 -1 -1 -1 1 2 -1 -1\n");
        Check.due("guest 2", Look.frames(x, 2), "frames 4 -1 3 -1 -1 -1 -1 -1\n");
        ControlProgram y = Scene.fullFrames();
        Check.due("guest 0", Look.frames(y, 0), "frames -1 0 1 2 3 4 5 -1\n");
        y.run(1);
        Check.due("guest 0", Look.frames(y, 0), "frames -1 -1 1 2 3 4 5 -1\n");
        Check.due("guest 1", Look.frames(y, 1), "frames -1 -1 -1 -1 -1 -1 -1 0\n");
    }

    private static void itIsNoUse() {
        ControlProgram x = Scene.fullFrames();
        x.frame(0, 1);
        x.frame(2, 2);
        x.run(1);
        Check.due("frame(0, 1)", x.frame(0, 1), -1);
        Check.due("frame(2, 2)", x.frame(2, 2), -1);
        Check.due("pagings", x.guest(2, 8), 0);
    }

    private static void outside() {
        ControlProgram x = Scene.fullFrames();
        for (int wrong : new int[] {-1, 8, 9, 16, Integer.MIN_VALUE, Integer.MAX_VALUE}) {
            Check.due("frame(0, " + wrong + ")", x.frame(0, wrong), -2);
            Check.due("frame(1, " + wrong + ")", x.frame(1, wrong), -2);
            Check.due("frame(" + wrong + ", 1)", x.frame(wrong, 1), -2);
        }
        Check.due("frame(3, 0)", x.frame(3, 0), -2);
        Check.due("frame(-1, 9)", x.frame(-1, 9), -2);
        Check.due("BAD - 1", ControlProgram.BAD - 1, -2);
    }
}
