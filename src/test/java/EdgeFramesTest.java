/** Terms: frames and paging. */
final class EdgeFramesTest {
    public static void main(String[] args) {
        Edge.of(Sentence.FRAMES)
            .at("none is used", () -> Check.due("frames", Look.pages(new ControlProgram()), "- - - - - -"))
            .at("all are used, and then each page of each guest", EdgeFramesTest::eachPageOfEachGuest)
            .at("pages of one number of three guests", EdgeFramesTest::samePageOfThreeGuests);
        Edge.of(Sentence.PAGING)
            .at("all frames free", EdgeFramesTest::allFree)
            .at("in a frame already, others free", EdgeFramesTest::inOneAlready)
            .at("the last free frame", EdgeFramesTest::lastFree)
            .at("in a frame already, none free", EdgeFramesTest::inOneAlreadyNoneFree)
            .at("none free, each frame once the one used longest ago", EdgeFramesTest::eachFrameOnceTheOldest)
            .at("none free, and a page of another guest used longest ago", EdgeFramesTest::oldestOfAnotherGuest)
            .at("free ones between others, after copy", () -> freeBetweenOthers(true))
            .at("free ones between others, after back", () -> freeBetweenOthers(false))
            .at("one free and an older one in use", EdgeFramesTest::freeBeforeOldest)
            .at("a frame that was free between counts from its new use on", EdgeFramesTest::refilledIsNew)
            .at("two pages by one step, none free", EdgeFramesTest::twoPagesByOneStep)
            .at("a page that went out comes again", EdgeFramesTest::outAndInAgain)
            .at("used again as a word by each instruction that accesses one", EdgeFramesTest::usedAgainAsAWord)
            .at("used again as an instruction", EdgeFramesTest::usedAgainAsAnInstruction)
            .at("used again by an interrupt", EdgeFramesTest::usedAgainByInterrupts)
            .at("an address that is not accessed is no use", EdgeFramesTest::notAccessedIsNoUse);
        Edge.of(Sentence.PAGES_HOLD)
            .at("a page that goes out and comes again", EdgeFramesTest::wordsStayWhenPagesGo)
            .at("a word stored while its page is in no frame", EdgeFramesTest::storedWhileOut);
        Check.end();
    }

    /** Pages 0 to 5 of guest 0 have been used in this order and are in frames 0 to 5. */
    private static ControlProgram filled() {
        ControlProgram x = new ControlProgram();
        for (int p = 0; p < 6; p++) {
            Scene.touch(x, 0, p);
        }
        return x;
    }

    private static void frames(ControlProgram x, String due) {
        Check.due("frames", Look.pages(x), due);
    }

    private static void eachPageOfEachGuest() {
        ControlProgram x = new ControlProgram();
        for (int i = 0; i < 24; i++) {
            Scene.touch(x, i / 8, i % 8);
            Check.due("the frame of page " + i, x.frame(i / 8, i % 8), i % 6);
        }
        frames(x, "2.2 2.3 2.4 2.5 2.6 2.7");
    }

    private static void samePageOfThreeGuests() {
        ControlProgram x = new ControlProgram();
        for (int g = 0; g < 3; g++) {
            Scene.touch(x, g, 7);
            Check.due("PAGINGS of " + g, x.guest(g, 8), 1);
        }
        frames(x, "0.7 1.7 2.7 - - -");
    }

    private static void allFree() {
        ControlProgram x = new ControlProgram();
        Scene.touch(x, 1, 4);
        frames(x, "1.4 - - - - -");
        Check.due("PAGINGS", x.guest(1, 8), 1);
    }

    private static void inOneAlready() {
        ControlProgram x = new ControlProgram();
        Scene.touch(x, 1, 4);
        Scene.touch(x, 1, 4);
        frames(x, "1.4 - - - - -");
        Check.due("PAGINGS", x.guest(1, 8), 0);
    }

    private static void lastFree() {
        ControlProgram x = new ControlProgram();
        for (int p = 0; p < 5; p++) {
            Scene.touch(x, 0, p);
        }
        frames(x, "0.0 0.1 0.2 0.3 0.4 -");
        Scene.touch(x, 2, 7);
        frames(x, "0.0 0.1 0.2 0.3 0.4 2.7");
    }

    private static void inOneAlreadyNoneFree() {
        ControlProgram x = filled();
        for (int p = 0; p < 6; p++) {
            Scene.touch(x, 0, p);
            Check.due("PAGINGS", x.guest(0, 8), 0);
        }
        frames(x, "0.0 0.1 0.2 0.3 0.4 0.5");
    }

    private static void eachFrameOnceTheOldest() {
        for (int oldest = 0; oldest < 6; oldest++) {
            ControlProgram x = filled();
            for (int p = 0; p < 6; p++) {
                if (p != oldest) {
                    Scene.touch(x, 0, p);
                }
            }
            Scene.touch(x, 0, 7);
            Check.due("the frame of the page that comes in", x.frame(0, 7), oldest);
            Check.due("the page that goes out", x.frame(0, oldest), -1);
            Check.due("PAGINGS", x.guest(0, 8), 1);
        }
    }

    private static void oldestOfAnotherGuest() {
        ControlProgram x = new ControlProgram();
        Scene.touch(x, 2, 3);
        for (int p = 0; p < 5; p++) {
            Scene.touch(x, 0, p);
        }
        Scene.touch(x, 0, 7);
        frames(x, "0.7 0.0 0.1 0.2 0.3 0.4");
        Check.due("PAGINGS of the one that lost a page", x.guest(2, 8), 1);
    }

    private static void freeBetweenOthers(boolean byCopy) {
        ControlProgram x = new ControlProgram();
        x.keep(2, 1);
        Scene.touch(x, 0, 0);
        Scene.touch(x, 1, 0);
        Scene.touch(x, 0, 1);
        Scene.touch(x, 1, 1);
        Scene.touch(x, 0, 2);
        if (byCopy) {
            x.copy(2, 1);
        } else {
            x.back(1, 1);
        }
        frames(x, "0.0 - 0.1 - 0.2 -");
        Scene.touch(x, 2, 4);
        Check.due("the least free one", x.frame(2, 4), 1);
        Scene.touch(x, 2, 5);
        Check.due("the least free one", x.frame(2, 5), 3);
        Scene.touch(x, 2, 6);
        Check.due("the last free one", x.frame(2, 6), 5);
        Scene.touch(x, 2, 7);
        frames(x, "2.7 2.4 0.1 2.5 0.2 2.6");
    }

    private static void freeBeforeOldest() {
        ControlProgram x = new ControlProgram();
        for (int p = 0; p < 5; p++) {
            Scene.touch(x, 0, p);
        }
        Scene.touch(x, 1, 6);
        x.copy(2, 1);
        Scene.touch(x, 2, 7);
        frames(x, "0.0 0.1 0.2 0.3 0.4 2.7");
    }

    private static void refilledIsNew() {
        ControlProgram x = new ControlProgram();
        Scene.touch(x, 1, 6);
        for (int p = 0; p < 5; p++) {
            Scene.touch(x, 0, p);
        }
        x.copy(2, 1);
        Scene.touch(x, 1, 5);
        Scene.touch(x, 1, 7);
        frames(x, "1.5 1.7 0.1 0.2 0.3 0.4");
    }

    private static void twoPagesByOneStep() {
        ControlProgram x = filled();
        x.store(1, 56, Code.load(0, 48));
        x.start(1, 56);
        x.run(1);
        frames(x, "1.7 1.6 0.2 0.3 0.4 0.5");
        Check.due("PAGINGS", x.guest(1, 8), 2);
        ControlProgram y = filled();
        y.store(1, 56, Code.call(0, 48));
        y.start(1, 56);
        y.run(1);
        frames(y, "1.7 1.0 0.2 0.3 0.4 0.5");
        Check.due("PAGINGS", y.guest(1, 8), 2);
    }

    private static void outAndInAgain() {
        ControlProgram x = filled();
        Scene.touch(x, 0, 6);
        Check.due("out", x.frame(0, 0), -1);
        Scene.touch(x, 0, 0);
        frames(x, "0.6 0.0 0.2 0.3 0.4 0.5");
        Check.due("PAGINGS", x.guest(0, 8), 1);
    }

    /** Page 0 of guest 0 was used longest ago; after the word at 40, in page 5, was carried out, is it still so? */
    private static void oldestAfter(String name, int word, boolean usedAgain) {
        ControlProgram x = filled();
        x.store(0, 40, word);
        x.start(0, 40);
        x.run(1);
        x.stop(0);
        Scene.touch(x, 1, 7);
        Check.due("frames after " + name, Look.pages(x),
            usedAgain ? "0.0 1.7 0.2 0.3 0.4 0.5" : "1.7 0.1 0.2 0.3 0.4 0.5");
    }

    private static void usedAgainAsAWord() {
        oldestAfter("LOAD", Code.load(0, 6), true);
        oldestAfter("STORE", Code.store(0, 6), true);
        oldestAfter("ADD", Code.add(0, 6), true);
        oldestAfter("FETCH", Code.fetch(1, 2), true);
        oldestAfter("PLACE", Code.place(1, 2), true);
        oldestAfter("PSW", Code.psw(6), true);
    }

    private static void usedAgainAsAnInstruction() {
        ControlProgram x = filled();
        Scene.touch(x, 0, 0);
        Scene.touch(x, 1, 7);
        frames(x, "0.0 1.7 0.2 0.3 0.4 0.5");
    }

    private static void usedAgainByInterrupts() {
        oldestAfter("interrupt 0", Code.call(0, 0), true);
        oldestAfter("interrupt 1", Code.NO_INSTRUCTION, true);
        ControlProgram x = filled();
        Scene.touch(x, 0, 0);
        // Now page 1 is the oldest one, and interrupt 2 uses it.
        x.start(0, Code.ENABLED);
        x.post(0, 3);
        x.run(1);
        x.stop(0);
        Scene.touch(x, 1, 7);
        frames(x, "0.0 0.1 1.7 0.3 0.4 0.5");
    }

    private static void notAccessedIsNoUse() {
        oldestAfter("SET", Code.word(3, 0, 6, 0), false);
        oldestAfter("MORE", Code.word(4, 0, 6, 0), false);
        oldestAfter("GO, before its next step", Code.go(6), false);
        oldestAfter("ZERO, before its next step", Code.zero(0, 6), false);
        oldestAfter("BELOW", Code.below(0, 6), false);
        oldestAfter("TABLE", Code.word(12, 0, 6, 0), false);
        oldestAfter("TELL", Code.word(13, 0, 6, 0), false);
        oldestAfter("WAIT", Code.word(14, 0, 6, 0), false);
    }

    private static void wordsStayWhenPagesGo() {
        ControlProgram x = Scene.began(16, Code.set(0, 77), Code.store(0, 63), Code.waits());
        x.run(3);
        Check.due("in", x.frame(0, 7), 1);
        for (int p = 0; p < 8; p++) {
            Scene.touch(x, 1, p);
        }
        Check.due("out", x.frame(0, 7), -1);
        Check.due("word", x.word(0, 63), 77);
        x.store(0, 20, Code.load(3, 63));
        x.start(0, 20);
        x.run(1);
        Check.due("in", x.frame(0, 7) >= 0, true);
        Check.due("register", x.guest(0, 6), 77);
        Check.due("word", x.word(0, 63), 77);
    }

    private static void storedWhileOut() {
        ControlProgram x = Scene.began(16, Code.load(3, 63), Code.go(16));
        x.store(0, 63, 5);
        x.run(1);
        Check.due("register", x.guest(0, 6), 5);
        for (int p = 0; p < 8; p++) {
            x.stop(0);
            Scene.touch(x, 1, p);
        }
        x.store(0, 63, 6);
        Check.due("out", x.frame(0, 7), -1);
        x.resume(0);
        x.run(2);
        Check.due("register", x.guest(0, 6), 6);
    }
}
