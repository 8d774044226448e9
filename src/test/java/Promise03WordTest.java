final class Promise03WordTest {
    public static void main(String[] args) {
        whatWasStoredIsRead();
        whatTheGuestWroteIsRead();
        theStorageIsReadNotTheMapped();
        itIsNoUse();
        outsideItIsNought();
        Check.end();
    }

    private static void whatWasStoredIsRead() {
        ControlProgram x = new ControlProgram();
        x.store(0, 0, -9);
        x.store(2, 63, 8);
        Check.due("word", x.word(0, 0), -9);
        Check.due("word", x.word(1, 0), 0);
        Check.due("word", x.word(2, 63), 8);
        x.store(0, 0, 4);
        Check.due("word", x.word(0, 0), 4);
    }

    private static void whatTheGuestWroteIsRead() {
        ControlProgram x = new ControlProgram();
        Scene.program(x, 1, 24, Code.set(0, 77), Code.store(0, 41));
        x.start(1, 24);
        x.run(2);
        Check.due("word", x.word(1, 41), 77);
        Check.due("word", x.word(0, 41), 0);
    }

    private static void theStorageIsReadNotTheMapped() {
        ControlProgram x = new ControlProgram();
        x.store(0, 0, Code.entry(3, false));
        x.store(0, 30, 123);
        x.start(0, Code.MAPPED);
        Check.due("leads", x.leads(0, 6, false), 30);
        Check.due("word", x.word(0, 6), 0);
        Check.due("word", x.word(0, 30), 123);
    }

    private static void itIsNoUse() {
        ControlProgram x = new ControlProgram();
        x.word(0, 24);
        Check.due("frame", x.frame(0, 3), -1);
        Check.due("pagings", x.guest(0, 8), 0);
        ControlProgram y = Scene.fullFrames();
        y.word(0, 9);
        y.run(1);
        Check.due("the page used longest ago goes out, read or not", y.frame(0, 1), -1);
    }

    private static void outsideItIsNought() {
        ControlProgram x = new ControlProgram();
        for (int g = 0; g < 3; g++) {
            for (int a = 0; a < 64; a++) {
                x.store(g, a, 1);
            }
        }
        for (int wrong : new int[] {-1, 64, 128, -64, Integer.MIN_VALUE, Integer.MAX_VALUE}) {
            Check.due("word(0, " + wrong + ")", x.word(0, wrong), 0);
            Check.due("word(1, " + wrong + ")", x.word(1, wrong), 0);
            Check.due("word(2, " + wrong + ")", x.word(2, wrong), 0);
            Check.due("word(" + wrong + ", 5)", x.word(wrong, 5), 0);
        }
        Check.due("word(3, 0)", x.word(3, 0), 0);
    }
}
