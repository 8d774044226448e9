/** Promises 7 to 9: copy, keep, back. */
final class EdgeCopiesTest {
    private static final int LEAST = Integer.MIN_VALUE;
    private static final int GREATEST = Integer.MAX_VALUE;
    private static final String NO_FRAMES = "frames -1 -1 -1 -1 -1 -1 -1 -1\n";

    public static void main(String[] args) {
        copy();
        keep();
        back();
        Check.end();
    }

    private static void copy() {
        Edge.of(Sentence.P07)
            .at("a RUNNING guest", () -> copies(0, 2))
            .at("a WAITING guest with a code", () -> copies(1, 0))
            .at("a STOPPED guest", () -> copies(2, 1))
            .at("the first and the last word", EdgeCopiesTest::copiesFirstAndLastWord)
            .at("the first and the last register", EdgeCopiesTest::copiesFirstAndLastRegister)
            .at("no pending code in place of one", EdgeCopiesTest::copiesNoCode)
            .at("the pending code 0", EdgeCopiesTest::copiesCodeNought)
            .at("counts that were not 0", EdgeCopiesTest::copyClearsCounts)
            .at("all frames hold its pages", () -> allFramesGetFree(true))
            .at("none of its pages is in a frame", EdgeCopiesTest::copyFreesNoOther)
            .at("later changes of the one are not the other's", EdgeCopiesTest::copiesAreApart)
            .at("the turn and what was told stay", EdgeCopiesTest::copyLeavesTheRest);
        Edge.of(Sentence.P07_FALSE)
            .at("from one too small", () -> isNotCopied(-1, 0))
            .at("from one too large", () -> isNotCopied(3, 0))
            .at("to one too small", () -> isNotCopied(0, -1))
            .at("to one too large", () -> isNotCopied(0, 3))
            .at("the least", () -> isNotCopied(LEAST, LEAST))
            .at("the greatest", () -> isNotCopied(GREATEST, 0))
            .at("both outside", () -> isNotCopied(-1, 3))
            .at("both the first", () -> isNotCopied(0, 0))
            .at("both the second", () -> isNotCopied(1, 1))
            .at("both the last", () -> isNotCopied(2, 2));
    }

    private static void keep() {
        Edge.of(Sentence.P08)
            .at("slot 0", () -> keeps(0, 0))
            .at("slot 1", () -> keeps(0, 1))
            .at("a WAITING guest with a code", () -> keeps(1, 0))
            .at("a STOPPED guest", () -> keeps(2, 1))
            .at("a guest never started", EdgeCopiesTest::keepsANew)
            .at("the first and the last word", EdgeCopiesTest::keepsFirstAndLastWord)
            .at("both slots full: they are apart", EdgeCopiesTest::slotsAreApart)
            .at("the guest itself, its counts and frames stay", EdgeCopiesTest::keepLeavesTheGuest);
        Edge.of(Sentence.P08_FALSE)
            .at("g one too small", () -> isNotKept(-1, 0))
            .at("g one too large", () -> isNotKept(3, 0))
            .at("the least g", () -> isNotKept(LEAST, 0))
            .at("the greatest g", () -> isNotKept(GREATEST, 0))
            .at("slot one too small", () -> isNotKept(1, -1))
            .at("slot one too large", () -> isNotKept(1, 2))
            .at("the least slot", () -> isNotKept(1, LEAST))
            .at("the greatest slot", () -> isNotKept(1, GREATEST))
            .at("both", () -> isNotKept(3, 2))
            .at("an empty slot is still empty", EdgeCopiesTest::refusedKeepsNothing);
    }

    private static void back() {
        Edge.of(Sentence.P09)
            .at("kept twice: the last", EdgeCopiesTest::theLastKept)
            .at("to the guest it was kept of", () -> comesBack(0, 0))
            .at("to another guest", () -> comesBack(0, 1))
            .at("from a WAITING guest with a code", () -> comesBack(1, 2))
            .at("from a STOPPED guest to a RUNNING one", () -> comesBack(2, 0))
            .at("twice from one slot", EdgeCopiesTest::twiceFromOneSlot)
            .at("no code kept, one pending since", EdgeCopiesTest::noCodeComesBack)
            .at("counts that were not 0", EdgeCopiesTest::countsStay)
            .at("all frames hold its pages", () -> allFramesGetFree(false))
            .at("pages of other guests stay in frames", EdgeCopiesTest::backFreesNoOther)
            .at("a STOPPED one comes back to the guest that has the turn", EdgeCopiesTest::stoppedInATurn)
            .at("the turn and what was told stay", EdgeCopiesTest::backLeavesTheRest);
        Edge.of(Sentence.P09_FALSE)
            .at("nothing kept at all", EdgeCopiesTest::nothingKept)
            .at("nothing kept in slot 1, something in slot 0", () -> isNotTakenBack(1, 1))
            .at("nothing kept in slot 0, something in slot 1", EdgeCopiesTest::nothingInTheFirst)
            .at("g one too small", () -> isNotTakenBack(-1, 0))
            .at("g one too large", () -> isNotTakenBack(3, 0))
            .at("the least g", () -> isNotTakenBack(LEAST, 0))
            .at("the greatest g", () -> isNotTakenBack(GREATEST, 0))
            .at("slot one too small", () -> isNotTakenBack(1, -1))
            .at("slot one too large", () -> isNotTakenBack(1, 2))
            .at("the least slot", () -> isNotTakenBack(1, LEAST))
            .at("the greatest slot", () -> isNotTakenBack(1, GREATEST))
            .at("both", () -> isNotTakenBack(3, 2));
    }

    private static void copies(int from, int to) {
        ControlProgram x = Scene.busy();
        ControlProgram as = Scene.busy();
        int third = 3 - from - to;
        Check.due("copy", x.copy(from, to), true);
        Check.due("to", Look.image(x, to), Look.image(as, from));
        Check.due("from", Look.image(x, from) + Look.counts(x, from) + Look.frames(x, from),
            Look.image(as, from) + Look.counts(as, from) + Look.frames(as, from));
        Check.due("the third", Look.image(x, third) + Look.counts(x, third) + Look.frames(x, third),
            Look.image(as, third) + Look.counts(as, third) + Look.frames(as, third));
        Check.due("counts", Look.counts(x, to), "counts 0 0 0\n");
        Check.due("frames", Look.frames(x, to), NO_FRAMES);
    }

    private static void copiesFirstAndLastWord() {
        ControlProgram x = new ControlProgram();
        x.store(2, 0, 5);
        x.store(2, 63, LEAST);
        x.copy(2, 0);
        Check.due("the first", x.word(0, 0), 5);
        Check.due("the last", x.word(0, 63), LEAST);
        Check.due("not of the third", x.word(1, 0), 0);
    }

    private static void copiesFirstAndLastRegister() {
        ControlProgram x = Scene.began(16, Code.set(0, 8), Code.set(3, -8));
        x.run(2);
        x.copy(0, 1);
        int[] due = {8, 0, 0, -8};
        for (int r = 0; r < 4; r++) {
            Check.due("register " + r, x.guest(1, 3 + r), due[r]);
            Check.due("register " + r + " of the third", x.guest(2, 3 + r), 0);
        }
    }

    private static void copiesNoCode() {
        ControlProgram x = new ControlProgram();
        x.post(1, 9);
        x.copy(0, 1);
        Check.due("pending", x.guest(1, 7), -1);
    }

    private static void copiesCodeNought() {
        ControlProgram x = new ControlProgram();
        x.post(0, 0);
        x.copy(0, 1);
        Check.due("pending", x.guest(1, 7), 0);
        Check.due("pending", x.guest(0, 7), 0);
    }

    private static void copyClearsCounts() {
        ControlProgram x = Scene.began(16, Code.call(1, 1));
        x.run(1);
        Check.due("counts", Look.counts(x, 0), "counts 2 1 1\n");
        x.copy(1, 0);
        Check.due("counts", Look.counts(x, 0), "counts 0 0 0\n");
        x.start(1, 16);
        x.run(1);
        x.copy(0, 1);
        Check.due("counts, of one whose pages are in frames", Look.counts(x, 1), "counts 0 0 0\n");
    }

    private static void allFramesGetFree(boolean byCopy) {
        ControlProgram x = Scene.fullFrames();
        Check.due("frames", Look.pages(x), "0.1 0.2 0.3 0.4 0.5 0.6");
        if (byCopy) {
            x.copy(1, 0);
        } else {
            x.keep(1, 1);
            x.back(0, 1);
        }
        Check.due("frames", Look.pages(x), "- - - - - -");
        x.stop(0);
        x.run(1);
        Check.due("frames", Look.pages(x), "1.7 - - - - -");
    }

    private static void copyFreesNoOther() {
        ControlProgram x = Scene.fullFrames();
        x.copy(0, 1);
        Check.due("frames", Look.pages(x), "0.1 0.2 0.3 0.4 0.5 0.6");
        Check.due("frames of the copy", Look.frames(x, 1), NO_FRAMES);
    }

    private static void copiesAreApart() {
        ControlProgram x = Scene.busy();
        x.copy(0, 2);
        x.store(0, 24, 99);
        x.post(2, 6);
        x.stop(0);
        Check.due("word", x.word(2, 24), Code.set(0, 5));
        Check.due("pending", x.guest(0, 7), -1);
        Check.due("state", x.guest(2, 0), ControlProgram.RUNNING);
    }

    private static void copyLeavesTheRest() {
        ControlProgram x = Scene.busy();
        ControlProgram as = Scene.busy();
        x.copy(0, 2);
        Check.turn(x, as.turn(false), as.turn(true));
        for (int k = 0; k < 8; k++) {
            Check.due("told", x.told(k), as.told(k));
        }
    }

    private static void isNotCopied(int from, int to) {
        Scene.nothingChanges(x -> Check.due("copy(" + from + ", " + to + ")", x.copy(from, to), false));
    }

    private static void keeps(int g, int slot) {
        ControlProgram x = Scene.busy();
        ControlProgram as = Scene.busy();
        Check.due("keep", x.keep(g, slot), true);
        x.store(g, 24, 1);
        x.start(g, 500);
        x.post(g, 77);
        x.run(5);
        x.back(g, slot);
        Check.due("what was kept", Look.image(x, g), Look.image(as, g));
    }

    private static void keepsANew() {
        ControlProgram x = Scene.busy();
        ControlProgram fresh = new ControlProgram();
        fresh.keep(2, 0);
        fresh.start(2, 9);
        fresh.store(2, 9, 9);
        Check.due("back", fresh.back(2, 0), true);
        Check.due("what was kept", Look.image(fresh, 2), Look.image(new ControlProgram(), 2));
        Check.due("not in another object", x.back(2, 0), false);
    }

    private static void keepsFirstAndLastWord() {
        ControlProgram x = new ControlProgram();
        x.store(2, 0, 5);
        x.store(2, 63, LEAST);
        x.keep(2, 1);
        x.store(2, 0, 6);
        x.store(2, 63, 7);
        x.back(2, 1);
        Check.due("the first", x.word(2, 0), 5);
        Check.due("the last", x.word(2, 63), LEAST);
    }

    private static void slotsAreApart() {
        ControlProgram x = new ControlProgram();
        x.store(0, 63, 1);
        x.store(1, 63, 2);
        x.keep(0, 0);
        x.keep(1, 1);
        x.back(2, 0);
        Check.due("slot 0", x.word(2, 63), 1);
        x.back(2, 1);
        Check.due("slot 1", x.word(2, 63), 2);
        x.back(2, 0);
        Check.due("slot 0 again", x.word(2, 63), 1);
    }

    private static void keepLeavesTheGuest() {
        ControlProgram x = Scene.busy();
        x.keep(0, 0);
        x.keep(2, 1);
        x.keep(1, 0);
        Check.due("all that can be seen", Look.at(x), Look.at(Scene.busy()));
    }

    private static void isNotKept(int g, int slot) {
        Scene.nothingChanges(x -> Check.due("keep(" + g + ", " + slot + ")", x.keep(g, slot), false));
    }

    private static void refusedKeepsNothing() {
        ControlProgram x = new ControlProgram();
        x.keep(-1, 0);
        x.keep(3, 1);
        x.keep(0, -1);
        x.keep(0, 2);
        Check.due("back(0, 0)", x.back(0, 0), false);
        Check.due("back(0, 1)", x.back(0, 1), false);
    }

    private static void theLastKept() {
        ControlProgram x = new ControlProgram();
        x.store(0, 5, 1);
        x.keep(0, 0);
        x.store(1, 5, 2);
        x.keep(1, 0);
        x.back(2, 0);
        Check.due("word", x.word(2, 5), 2);
    }

    private static void comesBack(int from, int to) {
        ControlProgram x = Scene.busy();
        ControlProgram as = Scene.busy();
        x.keep(from, 1);
        Check.due("back", x.back(to, 1), true);
        Check.due("to", Look.image(x, to), Look.image(as, from));
        Check.due("counts", Look.counts(x, to), Look.counts(as, to));
        Check.due("frames", Look.frames(x, to), NO_FRAMES);
        for (int g = 0; g < 3; g++) {
            if (g != to) {
                Check.due("the others", Look.image(x, g) + Look.counts(x, g) + Look.frames(x, g),
                    Look.image(as, g) + Look.counts(as, g) + Look.frames(as, g));
            }
        }
    }

    private static void twiceFromOneSlot() {
        ControlProgram x = new ControlProgram();
        x.store(0, 5, 1);
        x.keep(0, 0);
        x.store(0, 5, 2);
        Check.due("back", x.back(0, 0), true);
        x.store(0, 5, 3);
        Check.due("back", x.back(0, 0), true);
        Check.due("word", x.word(0, 5), 1);
    }

    private static void noCodeComesBack() {
        ControlProgram x = new ControlProgram();
        x.keep(0, 0);
        x.post(0, 0);
        x.keep(0, 1);
        x.back(0, 0);
        Check.due("pending", x.guest(0, 7), -1);
        x.back(0, 1);
        Check.due("pending", x.guest(0, 7), 0);
    }

    private static void countsStay() {
        ControlProgram x = Scene.began(16, Code.call(1, 1));
        x.keep(0, 0);
        x.run(1);
        x.back(0, 0);
        Check.due("counts", Look.counts(x, 0), "counts 2 1 1\n");
        x.run(1);
        Check.due("counts", Look.counts(x, 0), "counts 4 2 2\n");
        x.keep(0, 0);
        x.back(1, 0);
        Check.due("counts of another", Look.counts(x, 1), "counts 0 0 0\n");
    }

    private static void backFreesNoOther() {
        ControlProgram x = Scene.fullFrames();
        x.run(1);
        x.keep(0, 0);
        x.back(1, 0);
        Check.due("frames", Look.pages(x), "- 0.2 0.3 0.4 0.5 0.6");
    }

    private static void stoppedInATurn() {
        ControlProgram x = new ControlProgram();
        x.keep(0, 0);
        x.start(0, 24);
        x.start(1, 24);
        x.run(1);
        x.back(0, 0);
        Check.turn(x, 0, 3);
        x.run(1);
        Check.turn(x, 1, 3);
    }

    private static void backLeavesTheRest() {
        ControlProgram x = Scene.busy();
        ControlProgram as = Scene.busy();
        x.keep(0, 0);
        x.back(2, 0);
        Check.turn(x, as.turn(false), as.turn(true));
        for (int k = 0; k < 8; k++) {
            Check.due("told", x.told(k), as.told(k));
        }
    }

    private static void nothingKept() {
        for (int slot = 0; slot < 2; slot++) {
            ControlProgram x = Scene.busy();
            for (int g = 0; g < 3; g++) {
                Check.due("back(" + g + ", " + slot + ")", x.back(g, slot), false);
            }
            Check.due("all that can be seen", Look.at(x), Look.at(Scene.busy()));
        }
    }

    private static void nothingInTheFirst() {
        ControlProgram x = Scene.busy();
        x.keep(0, 1);
        Check.due("back(1, 0)", x.back(1, 0), false);
        Check.due("all that can be seen", Look.at(x), Look.at(Scene.busy()));
    }

    private static void isNotTakenBack(int g, int slot) {
        Scene.nothingChanges(x -> Check.due("back(" + g + ", " + slot + ")", x.back(g, slot), false));
    }
}
