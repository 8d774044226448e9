final class Promise01NewObjectTest {
    public static void main(String[] args) {
        everythingIsAtItsBeginning();
        nothingRunsAndNothingIsKept();
        objectsAreApart();
        Check.end();
    }

    private static void everythingIsAtItsBeginning() {
        ControlProgram x = new ControlProgram();
        for (int g = 0; g < 3; g++) {
            for (int what = 0; what <= 10; what++) {
                Check.due("guest(" + g + ", " + what + ")", x.guest(g, what), what == 7 ? -1 : 0);
            }
            for (int a = 0; a < 64; a++) {
                Check.due("word(" + g + ", " + a + ")", x.word(g, a), 0);
            }
            for (int p = 0; p < 8; p++) {
                Check.due("frame(" + g + ", " + p + ")", x.frame(g, p), -1);
            }
            Check.due("leads", x.leads(g, 9, true), 9);
        }
        for (int k = 0; k < 8; k++) {
            Check.due("told(" + k + ")", x.told(k), -1);
        }
        Check.due("turn(false)", x.turn(false), 0);
        Check.due("turn(true)", x.turn(true), 4);
    }

    private static void nothingRunsAndNothingIsKept() {
        ControlProgram x = new ControlProgram();
        Check.due("run", x.run(5), 0);
        for (int g = 0; g < 3; g++) {
            Check.due("stop", x.stop(g), false);
            Check.due("back", x.back(g, 0), false);
            Check.due("back", x.back(g, 1), false);
        }
        Check.due("looks", Look.at(x), Look.at(new ControlProgram()));
    }

    private static void objectsAreApart() {
        ControlProgram x = new ControlProgram();
        Scene.busy();
        Check.due("looks", Look.at(x), Look.at(new ControlProgram()));
    }
}
