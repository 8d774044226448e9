final class Promise07CopyTest {
    public static void main(String[] args) {
        for (int from = 0; from < 3; from++) {
            for (int to = 0; to < 3; to++) {
                if (from != to) {
                    theOtherBecomesTheSame(from, to);
                }
            }
        }
        bothAreApartAfterwards();
        framesThatGetFreeAreFilledFirst();
        pendingNoneIsCopiedToo();
        wrongOnesCopyNothing();
        Check.end();
    }

    private static void theOtherBecomesTheSame(int from, int to) {
        String name = "copy(" + from + ", " + to + ")";
        ControlProgram x = Scene.busy();
        ControlProgram as = Scene.busy();
        Check.due(name, x.copy(from, to), true);
        Check.due(name + " to", Look.image(x, to), Look.image(as, from));
        Check.due(name + " counts", Look.counts(x, to), "counts 0 0 0\n");
        Check.due(name + " frames", Look.frames(x, to), "frames -1 -1 -1 -1 -1 -1 -1 -1\n");
        int third = 3 - from - to;
        Check.due(name + " from's counts", Look.counts(x, from), Look.counts(as, from));
        Check.due(name + " from's frames", Look.frames(x, from), Look.frames(as, from));
        Check.due(name + " third's counts", Look.counts(x, third), Look.counts(as, third));
        Check.due(name + " third's frames", Look.frames(x, third), Look.frames(as, third));
        Check.due(name + " from", Look.image(x, from), Look.image(as, from));
        Check.due(name + " third", Look.image(x, third), Look.image(as, third));
        for (int k = 0; k < 8; k++) {
            Check.due(name + " told(" + k + ")", x.told(k), as.told(k));
        }
        Check.due(name + " turn(false)", x.turn(false), 2);
        Check.due(name + " turn(true)", x.turn(true), 1);
    }

    private static void bothAreApartAfterwards() {
        ControlProgram x = Scene.busy();
        x.copy(0, 2);
        x.store(0, 24, 99);
        x.store(2, 25, 98);
        x.post(2, 6);
        x.stop(0);
        Check.due("word", x.word(2, 24), Code.set(0, 5));
        Check.due("word", x.word(0, 25), Code.set(1, 7));
        Check.due("pending", x.guest(0, 7), -1);
        Check.due("state", x.guest(2, 0), ControlProgram.RUNNING);
        x.run(1);
        Check.due("it goes on where the other stood", x.guest(2, 1), 27);
        Check.due("steps", x.guest(2, 9), 1);
        Check.due("pagings", x.guest(2, 8), 1);
    }

    private static void framesThatGetFreeAreFilledFirst() {
        ControlProgram x = new ControlProgram();
        // Guest 0 gets frames 0 and 1, guest 1 frame 2, guest 0 frame 3.
        x.store(0, 8, Code.go(16));
        Scene.program(x, 0, 16, Code.go(17), Code.go(18), Code.go(19), Code.go(24));
        x.store(0, 24, Code.go(24));
        x.store(1, 40, Code.go(40));
        Scene.program(x, 2, 7, Code.go(8), Code.go(8));
        x.start(0, 8);
        x.start(1, 40);
        x.run(9);
        x.run(1);
        Check.due("frame", x.frame(0, 3), 3);
        Check.due("frame", x.frame(1, 5), 2);
        x.copy(1, 0);
        Check.due("frame", x.frame(0, 3), -1);
        x.run(1);
        Check.due("the least free one", x.frame(0, 5), 0);
        x.stop(0);
        x.start(2, 7);
        x.run(8);
        Check.due("the next free one", x.frame(2, 0), 1);
        Check.due("the next free one", x.frame(2, 1), 3);
    }

    private static void pendingNoneIsCopiedToo() {
        ControlProgram x = Scene.busy();
        x.copy(0, 1);
        Check.due("pending", x.guest(1, 7), -1);
        x.post(0, 0);
        x.copy(0, 1);
        Check.due("pending", x.guest(1, 7), 0);
    }

    private static void wrongOnesCopyNothing() {
        ControlProgram x = Scene.busy();
        for (int g = 0; g < 3; g++) {
            Check.due("copy to itself", x.copy(g, g), false);
            for (int wrong : new int[] {-1, 3, 4, Integer.MIN_VALUE, Integer.MAX_VALUE}) {
                Check.due("copy(" + g + ", " + wrong + ")", x.copy(g, wrong), false);
                Check.due("copy(" + wrong + ", " + g + ")", x.copy(wrong, g), false);
            }
        }
        Check.due("copy(-1, 3)", x.copy(-1, 3), false);
        Check.due("looks", Look.at(x), Look.at(Scene.busy()));
    }
}
