/** Which frame a used page comes into, and which page goes out. */
final class Promise11PagingTest {
    public static void main(String[] args) {
        theLeastFreeFrameIsFilled();
        whatWasNotUsedForLongestGoesOut();
        eachUseCounts();
        theInstructionIsUsedBeforeItsWord();
        interruptsUseTheirWords();
        guestsShareTheFrames();
        contentsAreNotChanged();
        Check.end();
    }

    private static void theLeastFreeFrameIsFilled() {
        ControlProgram x = Scene.fullFrames();
        for (int p = 1; p <= 6; p++) {
            Check.due("frame(0, " + p + ")", x.frame(0, p), p - 1);
        }
        Check.due("frame(0, 0)", x.frame(0, 0), -1);
        Check.due("pagings", x.guest(0, 8), 6);
    }

    private static void whatWasNotUsedForLongestGoesOut() {
        ControlProgram x = Scene.fullFrames();
        x.store(1, 56, Code.go(40));
        x.store(1, 40, Code.go(0));
        x.store(1, 0, Code.go(0));
        x.run(3);
        Check.due("frame(0, 1)", x.frame(0, 1), -1);
        Check.due("frame(0, 2)", x.frame(0, 2), -1);
        Check.due("frame(0, 3)", x.frame(0, 3), -1);
        Check.due("frame(0, 4)", x.frame(0, 4), 3);
        Check.due("frame(1, 7)", x.frame(1, 7), 0);
        Check.due("frame(1, 5)", x.frame(1, 5), 1);
        Check.due("frame(1, 0)", x.frame(1, 0), 2);
        Check.due("pagings of 0", x.guest(0, 8), 6);
        Check.due("pagings of 1", x.guest(1, 8), 3);
    }

    private static void eachUseCounts() {
        ControlProgram x = Scene.fullFrames();
        // Page 1 of guest 0 was used first, but is used again before the next one comes.
        x.stop(1);
        x.start(0, 8);
        x.store(0, 8, Code.go(8));
        x.run(1);
        Check.due("pagings", x.guest(0, 8), 0);
        x.stop(0);
        x.resume(1);
        x.run(1);
        Check.due("frame(0, 1)", x.frame(0, 1), 0);
        Check.due("frame(0, 2)", x.frame(0, 2), -1);
        Check.due("frame(1, 7)", x.frame(1, 7), 1);
    }

    private static void theInstructionIsUsedBeforeItsWord() {
        ControlProgram x = new ControlProgram();
        x.store(0, 24, Code.load(0, 16));
        x.start(0, 24);
        x.run(1);
        Check.due("frame of the instruction", x.frame(0, 3), 0);
        Check.due("frame of its word", x.frame(0, 2), 1);
        ControlProgram y = new ControlProgram();
        Scene.program(y, 0, 24, Code.set(1, 40), Code.place(0, 1), Code.psw(48));
        y.start(0, 24);
        y.run(3);
        Check.due("frame of PLACE's word", y.frame(0, 5), 1);
        Check.due("frame of PSW's word", y.frame(0, 6), 2);
        Check.due("pagings", y.guest(0, 8), 3);
    }

    private static void interruptsUseTheirWords() {
        ControlProgram x = new ControlProgram();
        x.store(0, 24, Code.call(0, 50));
        x.start(0, 24);
        x.run(1);
        Check.due("frame", x.frame(0, 0), 1);
        Check.due("pagings", x.guest(0, 8), 2);
        ControlProgram y = new ControlProgram();
        y.start(0, 24 + Code.ENABLED);
        y.post(0, 1);
        y.run(1);
        Check.due("frame", y.frame(0, 1), 0);
        Check.due("pagings", y.guest(0, 8), 1);
        ControlProgram z = Scene.fullFrames();
        // An interrupt 2 of guest 0 uses its page 1 again, and so its page 2 goes out.
        z.stop(1);
        z.start(0, Code.ENABLED);
        z.post(0, 1);
        z.run(1);
        z.stop(0);
        z.resume(1);
        z.run(1);
        Check.due("frame(0, 1)", z.frame(0, 1), 0);
        Check.due("frame(0, 2)", z.frame(0, 2), -1);
    }

    private static void guestsShareTheFrames() {
        ControlProgram x = new ControlProgram();
        for (int g = 0; g < 3; g++) {
            x.store(g, 24, Code.store(0, 40));
            x.store(g, 25, Code.go(25));
            x.start(g, 24);
        }
        x.run(12);
        for (int g = 0; g < 3; g++) {
            Check.due("frame(" + g + ", 3)", x.frame(g, 3), 2 * g);
            Check.due("frame(" + g + ", 5)", x.frame(g, 5), 2 * g + 1);
            Check.due("pagings", x.guest(g, 8), 2);
        }
    }

    private static void contentsAreNotChanged() {
        ControlProgram x = new ControlProgram();
        // The program fills page 6 and writes to every other page.
        x.store(0, 48, Code.set(0, 77));
        for (int i = 0; i < 7; i++) {
            x.store(0, 49 + i, Code.store(0, otherPage(i) * 8 + 6));
        }
        x.start(0, 48);
        x.run(8);
        Check.due("pagings", x.guest(0, 8), 8);
        for (int i = 0; i < 7; i++) {
            Check.due("word", x.word(0, otherPage(i) * 8 + 6), 77);
        }
        Check.due("word", x.word(0, 48), Code.set(0, 77));
    }

    private static int otherPage(int i) {
        return i < 6 ? i : 7;
    }
}
