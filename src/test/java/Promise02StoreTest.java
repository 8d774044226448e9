final class Promise02StoreTest {
    public static void main(String[] args) {
        eachWordIsStoredWhereItIsSaid();
        anyWordIsTaken();
        itIsNoUse();
        stateDoesNotMatter();
        outsideNothingIsStored();
        Check.end();
    }

    private static void eachWordIsStoredWhereItIsSaid() {
        ControlProgram x = new ControlProgram();
        for (int g = 0; g < 3; g++) {
            for (int a = 0; a < 64; a++) {
                Check.due("store", x.store(g, a, 1000 * g + a + 1), true);
            }
        }
        for (int g = 0; g < 3; g++) {
            for (int a = 0; a < 64; a++) {
                Check.due("word(" + g + ", " + a + ")", x.word(g, a), 1000 * g + a + 1);
            }
        }
    }

    private static void anyWordIsTaken() {
        ControlProgram x = new ControlProgram();
        for (int w : new int[] {Integer.MIN_VALUE, Integer.MAX_VALUE, -1, 0}) {
            Check.due("store", x.store(1, 63, w), true);
            Check.due("word", x.word(1, 63), w);
        }
    }

    private static void itIsNoUse() {
        ControlProgram x = new ControlProgram();
        x.store(0, 24, 5);
        Check.due("frame", x.frame(0, 3), -1);
        Check.due("pagings", x.guest(0, 8), 0);
        ControlProgram y = Scene.fullFrames();
        y.store(0, 9, 5);
        y.run(1);
        Check.due("the page used longest ago goes out, stored to or not", y.frame(0, 1), -1);
        Check.due("frame", y.frame(1, 7), 0);
    }

    private static void stateDoesNotMatter() {
        ControlProgram x = Scene.busy();
        for (int g = 0; g < 3; g++) {
            Check.due("store", x.store(g, 62, 17 + g), true);
            Check.due("word", x.word(g, 62), 17 + g);
        }
    }

    private static void outsideNothingIsStored() {
        ControlProgram x = Scene.busy();
        int[] outside = {-1, 3, Integer.MIN_VALUE, Integer.MAX_VALUE};
        for (int g : outside) {
            Check.due("store(" + g + ", 0, 7)", x.store(g, 0, 7), false);
            Check.due("store(" + g + ", 64, 7)", x.store(g, 64, 7), false);
        }
        for (int a : new int[] {-1, 64, -64, Integer.MIN_VALUE, Integer.MAX_VALUE}) {
            for (int g = 0; g < 3; g++) {
                Check.due("store(" + g + ", " + a + ", 7)", x.store(g, a, 7), false);
            }
        }
        Check.due("looks", Look.at(x), Look.at(Scene.busy()));
    }
}
