/** Terms: calls, words, guests, storage, PSW, TABLE. */
final class EdgeWordsTest {
    /** Words with bits beyond those of a PSW. */
    private static final int[] LARGER = {512, 512 + 9, 1 << 30, -512, -1, Integer.MIN_VALUE, Integer.MAX_VALUE};

    public static void main(String[] args) {
        Edge.of(Sentence.WHAT_IT_IS)
            .at("three guests in storages that are apart, run side by side", EdgeWordsTest::guestsAreApart);
        Edge.of(Sentence.CALLS)
            .at("the 512th call, after 511 that store", EdgeWordsTest::lastOfManyStores)
            .at("the 512th call, after 100 steps in each other one", EdgeWordsTest::lastOfManyRuns)
            .at("the page used longest ago, after 44000 steps", EdgeWordsTest::pagesAfterManyRuns);
        Edge.of(Sentence.WORDS)
            .at("the least int", () -> isAWord(Integer.MIN_VALUE))
            .at("the greatest int", () -> isAWord(Integer.MAX_VALUE))
            .at("-1", () -> isAWord(-1))
            .at("0", () -> isAWord(0));
        Edge.of(Sentence.GUESTS)
            .at("the first and the last word of each guest", EdgeWordsTest::firstAndLastWord)
            .at("the first and the last word of each page", EdgeWordsTest::firstAndLastOfPages)
            .at("the first and the last register", EdgeWordsTest::firstAndLastRegister)
            .at("the first and the last address of a PSW", EdgeWordsTest::firstAndLastPswAddress)
            .at("the first and the last TABLE", EdgeWordsTest::firstAndLastTable)
            .at("no pending code, one, and never two", EdgeWordsTest::noneOrOnePending)
            .at("each of the three states", EdgeWordsTest::eachState);
        Edge.of(Sentence.PSW_AS_A_WORD)
            .at("no bit", () -> meansBits(0, false, false, false))
            .at("PROBLEM alone", () -> meansBits(64, true, false, false))
            .at("MAPPED alone", () -> meansBits(128, false, true, false))
            .at("ENABLED alone", () -> meansBits(256, false, false, true))
            .at("the bit above ENABLED alone", () -> meansBits(512, false, false, false))
            .at("all bits and the last address", () -> Check.due("PSW", Scene.began(511).guest(0, 1), 511))
            .at("other bits of a word given to start", EdgeWordsTest::otherBitsAtStart)
            .at("other bits of a word that PSW loads", EdgeWordsTest::otherBitsByPsw)
            .at("other bits of a word that an interrupt loads", EdgeWordsTest::otherBitsByInterrupts)
            .at("other bits are not kept by an interrupt", EdgeWordsTest::otherBitsAreNotKept);
        Check.end();
    }

    private static void guestsAreApart() {
        ControlProgram x = new ControlProgram();
        for (int g = 0; g < 3; g++) {
            Scene.program(x, g, 24, Code.set(0, 100 + g), Code.store(0, 40), Code.tell(0), Code.waits());
            x.start(g, 24);
        }
        Check.due("run(100)", x.run(100), 12);
        for (int g = 0; g < 3; g++) {
            Check.due("word", x.word(g, 40), 100 + g);
            Check.due("register", x.guest(g, 3), 100 + g);
            Check.due("told", x.told(2 - g), 8589934592L * g + 4294967296L + 100 + g);
        }
    }

    private static void lastOfManyStores() {
        ControlProgram x = new ControlProgram();
        for (int i = 0; i < 511; i++) {
            x.store(i % 3, i % 64, i);
        }
        Check.due("call 512, word(510 % 3, 510 % 64)", x.word(0, 62), 510);
    }

    private static void lastOfManyRuns() {
        ControlProgram x = new ControlProgram();
        x.start(0, 0);
        for (int i = 0; i < 510; i++) {
            Check.due("run(100)", x.run(100), 100);
        }
        Check.due("call 512, steps", x.guest(0, 9), 51000);
    }

    private static void pagesAfterManyRuns() {
        ControlProgram x = Scene.fullFrames();
        for (int i = 0; i < 440; i++) {
            x.run(100);
        }
        Check.due("frames", Look.pages(x), "1.7 0.2 0.3 0.4 0.5 0.6");
        x.stop(1);
        Scene.touch(x, 2, 0);
        Check.due("the frame of page 2 of guest 0", x.frame(2, 0), 1);
    }

    private static void isAWord(int w) {
        ControlProgram x = Scene.began(16, Code.load(1, 60), Code.store(1, 61), Code.tell(1));
        x.store(0, 60, w);
        x.run(3);
        Check.due("word stored", x.word(0, 60), w);
        Check.due("register", x.guest(0, 4), w);
        Check.due("word written", x.word(0, 61), w);
        Check.due("told", x.told(0), w + 4294967296L);
    }

    private static void firstAndLastWord() {
        ControlProgram x = new ControlProgram();
        for (int g = 0; g < 3; g++) {
            x.store(g, 0, 10 + g);
            x.store(g, 63, 20 + g);
        }
        for (int g = 0; g < 3; g++) {
            Check.due("word(" + g + ", 0)", x.word(g, 0), 10 + g);
            Check.due("word(" + g + ", 63)", x.word(g, 63), 20 + g);
            Check.due("word(" + g + ", 1)", x.word(g, 1), 0);
            Check.due("word(" + g + ", 62)", x.word(g, 62), 0);
        }
    }

    private static void firstAndLastOfPages() {
        for (int p = 0; p < 8; p++) {
            for (int at : new int[] {8 * p, 8 * p + 7}) {
                ControlProgram x = Scene.began(at, Code.go(at));
                x.run(2);
                Check.due("the frame of word " + at, Look.pages(x), "0." + p + " - - - - -");
            }
        }
    }

    private static void firstAndLastRegister() {
        ControlProgram x = Scene.began(16, Code.set(0, 5), Code.set(3, 8));
        x.run(2);
        Check.due("register 0", x.guest(0, 3), 5);
        Check.due("register 1", x.guest(0, 4), 0);
        Check.due("register 2", x.guest(0, 5), 0);
        Check.due("register 3", x.guest(0, 6), 8);
    }

    private static void firstAndLastPswAddress() {
        for (int at : new int[] {0, 63}) {
            ControlProgram x = Scene.began(at, Code.set(2, 70 + at));
            Check.due("PSW", x.guest(0, 1), at);
            x.run(1);
            Check.due("the instruction there was carried out", x.guest(0, 5), 70 + at);
        }
    }

    private static void firstAndLastTable() {
        for (int table : new int[] {0, 63}) {
            ControlProgram x = Scene.began(16, Code.set(1, table), Code.table(1), Code.psw(19), Code.MAPPED);
            x.run(3);
            x.store(0, table, Code.entry(6, false));
            Check.due("TABLE", x.guest(0, 2), table);
            Check.due("leads", x.leads(0, 1, false), 49);
        }
    }

    private static void noneOrOnePending() {
        ControlProgram x = Scene.began(16 + Code.ENABLED);
        Check.due("none", x.guest(0, 7), -1);
        x.post(0, 4);
        Check.due("one", x.guest(0, 7), 4);
        x.post(0, 9);
        x.store(0, 11, 40 + Code.ENABLED);
        x.run(2);
        Check.due("interrupts", x.guest(0, 10), 1);
        Check.due("code", x.word(0, 9), 9);
    }

    private static void eachState() {
        ControlProgram x = new ControlProgram();
        Check.due("STOPPED", x.guest(0, 0), ControlProgram.STOPPED);
        x.store(0, 16, Code.waits());
        x.start(0, 16);
        Check.due("RUNNING", x.guest(0, 0), ControlProgram.RUNNING);
        x.run(1);
        Check.due("WAITING", x.guest(0, 0), ControlProgram.WAITING);
    }

    private static void meansBits(int bits, boolean problem, boolean mapped, boolean enabled) {
        ControlProgram x = Scene.began(40 + bits, Code.tell(0));
        Check.due("PSW", x.guest(0, 1), 40 + (bits & 511));
        Check.due("MAPPED", x.leads(0, 5, false), mapped ? -4 : 5);
        x.run(1);
        Check.due("told", x.told(0), problem || mapped ? -1 : 4294967296L);
        Check.due("code", x.word(0, 5), problem ? 2 : mapped ? 4 : 0);
        x.start(0, 40 + bits);
        x.post(0, 77);
        x.run(1);
        Check.due("pending", x.guest(0, 7), enabled ? -1 : 77);
    }

    private static void otherBitsAtStart() {
        for (int w : LARGER) {
            ControlProgram x = Scene.began(w);
            Check.due("PSW started with " + w, x.guest(0, 1), w & 511);
        }
    }

    private static void otherBitsByPsw() {
        for (int w : LARGER) {
            ControlProgram x = Scene.began(16, Code.psw(17), w);
            x.run(1);
            Check.due("PSW loaded from " + w, x.guest(0, 1), w & 511);
        }
    }

    private static void otherBitsByInterrupts() {
        for (int w : LARGER) {
            ControlProgram call = Scene.began(16, Code.call(1, 1));
            call.store(0, 3, w);
            call.run(1);
            Check.due("PSW of interrupt 0 from " + w, call.guest(0, 1), w & 511);
            ControlProgram program = Scene.began(16, Code.NO_INSTRUCTION);
            program.store(0, 7, w);
            program.run(1);
            Check.due("PSW of interrupt 1 from " + w, program.guest(0, 1), w & 511);
            ControlProgram external = Scene.began(16 + Code.ENABLED);
            external.store(0, 11, w);
            external.post(0, 1);
            external.run(1);
            Check.due("PSW of interrupt 2 from " + w, external.guest(0, 1), w & 511);
        }
    }

    private static void otherBitsAreNotKept() {
        ControlProgram x = Scene.began(-512 + 16, Code.psw(17), -512 + 18, Code.NO_INSTRUCTION);
        x.run(2);
        Check.kept(x, 1, 18, 1, 18);
    }
}
