/** Promises 1 to 3: a new object, store, word. */
final class EdgeStorageCallsTest {
    private static final int LEAST = Integer.MIN_VALUE;
    private static final int GREATEST = Integer.MAX_VALUE;

    public static void main(String[] args) {
        Edge.of(Sentence.P01)
            .at("all guests STOPPED", EdgeStorageCallsTest::newGuestsAreStopped)
            .at("everything 0: words", EdgeStorageCallsTest::newWords)
            .at("everything 0: PSW, TABLE, registers, counts", EdgeStorageCallsTest::newGuests)
            .at("everything 0: nothing pending, told or kept", EdgeStorageCallsTest::newHasNothing)
            .at("no page in a frame", () -> Check.due("frames", Look.pages(new ControlProgram()), "- - - - - -"))
            .at("guest 0 has the turn", () -> Check.due("turn", new ControlProgram().turn(false), 0))
            .at("an object made while another is in use", EdgeStorageCallsTest::secondObject);
        Edge.of(Sentence.P02)
            .at("the first word of the first guest", () -> stores(0, 0))
            .at("the last word of the first guest", () -> stores(0, 63))
            .at("the first word of the last guest", () -> stores(2, 0))
            .at("the last word of the last guest", () -> stores(2, 63))
            .at("no use: no frame in use", EdgeStorageCallsTest::storeBringsNothingIn)
            .at("no use: no frame free", EdgeStorageCallsTest::storeKeepsNothingIn)
            .at("the word of a RUNNING, a WAITING and a STOPPED guest", EdgeStorageCallsTest::storesInEachState);
        Edge.of(Sentence.P02_FALSE)
            .at("g one too small", () -> isNotStored(-1, 5))
            .at("g one too large", () -> isNotStored(3, 5))
            .at("the least g", () -> isNotStored(LEAST, 5))
            .at("the greatest g", () -> isNotStored(GREATEST, 5))
            .at("a one too small", () -> isNotStored(1, -1))
            .at("a one too large", () -> isNotStored(1, 64))
            .at("a one too large for the last guest", () -> isNotStored(2, 64))
            .at("a one too small for the first guest", () -> isNotStored(0, -1))
            .at("the least a", () -> isNotStored(1, LEAST))
            .at("the greatest a", () -> isNotStored(1, GREATEST))
            .at("both", () -> isNotStored(-1, 64));
        Edge.of(Sentence.P03)
            .at("the first and the last word", EdgeStorageCallsTest::readsFirstAndLast)
            .at("no use: no frame in use", EdgeStorageCallsTest::wordBringsNothingIn)
            .at("no use: no frame free", EdgeStorageCallsTest::wordKeepsNothingIn)
            .at("g one too small", () -> readsNought(-1, 5))
            .at("g one too large", () -> readsNought(3, 5))
            .at("the least g", () -> readsNought(LEAST, 5))
            .at("the greatest g", () -> readsNought(GREATEST, 5))
            .at("a one too small", () -> readsNought(1, -1))
            .at("a one too large", () -> readsNought(1, 64))
            .at("a one too large for the last guest", () -> readsNought(2, 64))
            .at("a one too small for the first guest", () -> readsNought(0, -1))
            .at("the least a", () -> readsNought(1, LEAST))
            .at("the greatest a", () -> readsNought(1, GREATEST))
            .at("both", () -> readsNought(3, -1))
            .at("not MAPPED by the guest's table", EdgeStorageCallsTest::readsPastTheTable);
        Check.end();
    }

    private static void newGuestsAreStopped() {
        ControlProgram x = new ControlProgram();
        for (int g = 0; g < 3; g++) {
            Check.due("state", x.guest(g, 0), ControlProgram.STOPPED);
            Check.due("stop", x.stop(g), false);
        }
        Check.due("run(100)", x.run(100), 0);
    }

    private static void newWords() {
        ControlProgram x = new ControlProgram();
        for (int g = 0; g < 3; g++) {
            for (int a = 0; a < 64; a++) {
                Check.due("word(" + g + ", " + a + ")", x.word(g, a), 0);
            }
        }
    }

    private static void newGuests() {
        ControlProgram x = new ControlProgram();
        for (int g = 0; g < 3; g++) {
            for (int what = 1; what <= 10; what++) {
                Check.due("guest(" + g + ", " + what + ")", x.guest(g, what), what == 7 ? -1 : 0);
            }
        }
    }

    private static void newHasNothing() {
        ControlProgram x = new ControlProgram();
        for (int g = 0; g < 3; g++) {
            Check.due("pending", x.guest(g, 7), -1);
            Check.due("back", x.back(g, 0), false);
            Check.due("back", x.back(g, 1), false);
        }
        for (int k = 0; k < 8; k++) {
            Check.due("told", x.told(k), -1);
        }
    }

    private static void secondObject() {
        ControlProgram first = Scene.busy();
        first.keep(0, 0);
        ControlProgram second = new ControlProgram();
        Check.due("kept by the other", second.back(0, 0), false);
        Check.due("all that can be seen", Look.at(second), Look.at(new ControlProgram()));
        Check.due("all that can be seen of the first", Look.at(first), Look.at(Scene.busy()));
    }

    private static void stores(int g, int a) {
        ControlProgram x = new ControlProgram();
        Check.due("store", x.store(g, a, -5), true);
        for (int guest = 0; guest < 3; guest++) {
            for (int at = 0; at < 64; at++) {
                Check.due("word(" + guest + ", " + at + ")", x.word(guest, at), guest == g && at == a ? -5 : 0);
            }
        }
    }

    private static void storeBringsNothingIn() {
        ControlProgram x = new ControlProgram();
        x.store(0, 63, 1);
        Check.due("frames", Look.pages(x), "- - - - - -");
        Check.due("PAGINGS", x.guest(0, 8), 0);
    }

    private static void storeKeepsNothingIn() {
        ControlProgram x = Scene.fullFrames();
        x.store(0, 8, 1);
        x.store(2, 8, 1);
        x.run(1);
        Check.due("frames", Look.pages(x), "1.7 0.2 0.3 0.4 0.5 0.6");
    }

    private static void storesInEachState() {
        ControlProgram x = Scene.busy();
        for (int g = 0; g < 3; g++) {
            int state = x.guest(g, 0);
            Check.due("store", x.store(g, 63, 8), true);
            Check.due("word", x.word(g, 63), 8);
            Check.due("state", x.guest(g, 0), state);
        }
    }

    private static void isNotStored(int g, int a) {
        Scene.nothingChanges(x -> Check.due("store(" + g + ", " + a + ", 7)", x.store(g, a, 7), false));
    }

    private static void readsFirstAndLast() {
        ControlProgram x = new ControlProgram();
        for (int g = 0; g < 3; g++) {
            x.store(g, 0, 50 + g);
            x.store(g, 63, -50 - g);
            Check.due("word", x.word(g, 0), 50 + g);
            Check.due("word", x.word(g, 63), -50 - g);
        }
    }

    private static void wordBringsNothingIn() {
        ControlProgram x = new ControlProgram();
        x.word(0, 63);
        Check.due("frames", Look.pages(x), "- - - - - -");
        Check.due("PAGINGS", x.guest(0, 8), 0);
    }

    private static void wordKeepsNothingIn() {
        ControlProgram x = Scene.fullFrames();
        x.word(0, 8);
        x.word(2, 8);
        x.run(1);
        Check.due("frames", Look.pages(x), "1.7 0.2 0.3 0.4 0.5 0.6");
    }

    /** Every word is 1, also those kept, so that no wrong index answers 0. */
    private static void readsNought(int g, int a) {
        ControlProgram x = new ControlProgram();
        for (int guest = 0; guest < 3; guest++) {
            for (int at = 0; at < 64; at++) {
                x.store(guest, at, 1);
            }
        }
        x.keep(0, 0);
        x.keep(0, 1);
        Check.due("word(" + g + ", " + a + ")", x.word(g, a), 0);
    }

    private static void readsPastTheTable() {
        ControlProgram x = Scene.began(Code.MAPPED);
        x.store(0, 0, Code.entry(5, false));
        x.store(0, 1, 12);
        Check.due("leads", x.leads(0, 1, false), 41);
        Check.due("word", x.word(0, 1), 12);
    }
}
