/** Promises 4 to 6: start, stop, resume. */
final class EdgeStateCallsTest {
    private static final int LEAST = Integer.MIN_VALUE;
    private static final int GREATEST = Integer.MAX_VALUE;

    public static void main(String[] args) {
        Edge.of(Sentence.P04)
            .at("a RUNNING guest", () -> startsAnew(0))
            .at("a WAITING guest with a pending code", () -> startsAnew(1))
            .at("a STOPPED guest", () -> startsAnew(2))
            .at("the least PSW, 0", () -> startsWith(0, 0))
            .at("the greatest PSW, 511", () -> startsWith(511, 511))
            .at("a word one too great for a PSW", () -> startsWith(512, 0))
            .at("the word -1", () -> startsWith(-1, 511))
            .at("the least word", () -> startsWith(LEAST, 0))
            .at("the pending code 0", EdgeStateCallsTest::pendingNoughtIsGone)
            .at("registers at the least and the greatest int", EdgeStateCallsTest::registersAreNought)
            .at("every register, code and count of every guest not 0", EdgeStateCallsTest::onlyItsOwn)
            .at("storage and frames stay", EdgeStateCallsTest::storageAndFramesStay)
            .at("the other guests, the turn and what was told stay", EdgeStateCallsTest::othersStay)
            .at("the guest that has the turn: as many steps are left", EdgeStateCallsTest::startInATurn);
        Edge.of(Sentence.P04_FALSE)
            .at("g one too small", () -> isNotStarted(-1))
            .at("g one too large", () -> isNotStarted(3))
            .at("the least g", () -> isNotStarted(LEAST))
            .at("the greatest g", () -> isNotStarted(GREATEST));
        Edge.of(Sentence.P05)
            .at("a RUNNING guest", () -> stops(0))
            .at("a WAITING guest", () -> stops(1))
            .at("a guest that has the turn with steps left", EdgeStateCallsTest::stopInATurn)
            .at("the last guest", EdgeStateCallsTest::stopTheLast);
        Edge.of(Sentence.P05_FALSE)
            .at("a STOPPED guest", () -> isNotStopped(2))
            .at("g one too small", () -> isNotStopped(-1))
            .at("g one too large", () -> isNotStopped(3))
            .at("the least g", () -> isNotStopped(LEAST))
            .at("the greatest g", () -> isNotStopped(GREATEST))
            .at("twice: the second time", EdgeStateCallsTest::stopTwice)
            .at("never started", () -> Check.due("stop", new ControlProgram().stop(0), false));
        Edge.of(Sentence.P06)
            .at("a guest that was RUNNING", EdgeStateCallsTest::resumeARunning)
            .at("a guest that was WAITING", EdgeStateCallsTest::resumeAWaiting)
            .at("a guest never started", EdgeStateCallsTest::resumeANew)
            .at("a pending code and ENABLED", EdgeStateCallsTest::resumeWithACode)
            .at("counts and frames stay", EdgeStateCallsTest::resumeKeepsCounts)
            .at("the guest that has the turn: as many steps are left", EdgeStateCallsTest::resumeInATurn);
        Edge.of(Sentence.P06_FALSE)
            .at("a RUNNING guest", () -> isNotResumed(0))
            .at("a WAITING guest", () -> isNotResumed(1))
            .at("g one too small", () -> isNotResumed(-1))
            .at("g one too large", () -> isNotResumed(3))
            .at("the least g", () -> isNotResumed(LEAST))
            .at("the greatest g", () -> isNotResumed(GREATEST))
            .at("twice: the second time", EdgeStateCallsTest::resumeTwice);
        Check.end();
    }

    private static void startsAnew(int g) {
        ControlProgram x = Scene.busy();
        Check.due("start", x.start(g, 50), true);
        int[] due = {ControlProgram.RUNNING, 50, 0, 0, 0, 0, 0, -1, 0, 0, 0};
        for (int what = 0; what <= 10; what++) {
            Check.due("guest(" + g + ", " + what + ")", x.guest(g, what), due[what]);
        }
    }

    private static void startsWith(int word, int psw) {
        for (int g = 0; g < 3; g++) {
            ControlProgram x = new ControlProgram();
            Check.due("start", x.start(g, word), true);
            Check.due("PSW", x.guest(g, 1), psw);
        }
    }

    private static void pendingNoughtIsGone() {
        ControlProgram x = new ControlProgram();
        x.post(1, 0);
        x.start(1, 24 + Code.ENABLED);
        Check.due("pending", x.guest(1, 7), -1);
        x.run(1);
        Check.due("interrupts", x.guest(1, 10), 0);
    }

    private static void registersAreNought() {
        ControlProgram x = Scene.began(16, Code.load(0, 40), Code.load(1, 41), Code.load(2, 40), Code.load(3, 41));
        x.store(0, 40, LEAST);
        x.store(0, 41, GREATEST);
        x.run(4);
        Check.due("register", x.guest(0, 6), GREATEST);
        x.start(0, 16);
        for (int r = 0; r < 4; r++) {
            Check.due("register " + r, x.guest(0, 3 + r), 0);
        }
    }

    private static void onlyItsOwn() {
        int[] due = {ControlProgram.RUNNING, 50, 0, 0, 0, 0, 0, -1, 0, 0, 0};
        for (int g = 0; g < 3; g++) {
            ControlProgram x = Scene.everything();
            ControlProgram as = Scene.everything();
            x.start(g, 50);
            for (int other = 0; other < 3; other++) {
                for (int what = 0; what <= 10; what++) {
                    Check.due("guest(" + other + ", " + what + ")", x.guest(other, what),
                        other == g ? due[what] : as.guest(other, what));
                }
            }
        }
    }

    private static void storageAndFramesStay() {
        ControlProgram x = Scene.busy();
        ControlProgram as = Scene.busy();
        x.start(1, 50);
        for (int a = 0; a < 64; a++) {
            Check.due("word", x.word(1, a), as.word(1, a));
        }
        Check.due("frames", Look.pages(x), Look.pages(as));
    }

    private static void othersStay() {
        ControlProgram x = Scene.busy();
        ControlProgram as = Scene.busy();
        x.start(1, 50);
        Check.due("guest 0", Look.image(x, 0) + Look.counts(x, 0), Look.image(as, 0) + Look.counts(as, 0));
        Check.due("guest 2", Look.image(x, 2) + Look.counts(x, 2), Look.image(as, 2) + Look.counts(as, 2));
        Check.turn(x, as.turn(false), as.turn(true));
        for (int k = 0; k < 8; k++) {
            Check.due("told", x.told(k), as.told(k));
        }
    }

    private static void startInATurn() {
        ControlProgram x = new ControlProgram();
        x.start(0, 24);
        x.start(1, 24);
        x.run(3);
        x.start(0, 24);
        Check.turn(x, 0, 1);
        x.run(2);
        Check.turn(x, 1, 3);
    }

    private static void resumeInATurn() {
        ControlProgram x = new ControlProgram();
        x.start(0, 24);
        x.start(1, 24);
        x.run(3);
        x.stop(0);
        x.resume(0);
        Check.turn(x, 0, 1);
        x.run(1);
        Check.turn(x, 0, 0);
    }

    private static void isNotStarted(int g) {
        Scene.nothingChanges(x -> Check.due("start(" + g + ", 5)", x.start(g, 5), false));
    }

    private static void stops(int g) {
        ControlProgram x = Scene.busy();
        ControlProgram as = Scene.busy();
        Check.due("stop", x.stop(g), true);
        Check.due("state", x.guest(g, 0), ControlProgram.STOPPED);
        for (int what = 1; what <= 10; what++) {
            Check.due("guest(" + g + ", " + what + ")", x.guest(g, what), as.guest(g, what));
        }
        Check.due("state of the other", x.guest(1 - g, 0), as.guest(1 - g, 0));
        Check.due("frames", Look.pages(x), Look.pages(as));
    }

    private static void stopInATurn() {
        ControlProgram x = new ControlProgram();
        x.start(0, 24);
        x.run(1);
        Check.due("stop", x.stop(0), true);
        Check.turn(x, 0, 3);
        Check.due("run(1)", x.run(1), 0);
        Check.due("steps", x.guest(0, 9), 1);
    }

    private static void stopTheLast() {
        ControlProgram x = new ControlProgram();
        x.start(2, 24);
        Check.due("stop", x.stop(2), true);
        Check.due("state", x.guest(2, 0), ControlProgram.STOPPED);
    }

    private static void isNotStopped(int g) {
        Scene.nothingChanges(x -> Check.due("stop(" + g + ")", x.stop(g), false));
    }

    private static void stopTwice() {
        ControlProgram x = Scene.began(24);
        Check.due("stop", x.stop(0), true);
        Check.due("stop", x.stop(0), false);
        Check.due("state", x.guest(0, 0), ControlProgram.STOPPED);
    }

    private static void resumeARunning() {
        ControlProgram x = Scene.began(24, Code.set(0, 1), Code.more(0, 1));
        x.run(1);
        x.stop(0);
        Check.due("resume", x.resume(0), true);
        Check.due("state", x.guest(0, 0), ControlProgram.RUNNING);
        x.run(1);
        Check.due("it goes on", x.guest(0, 3), 2);
    }

    private static void resumeAWaiting() {
        ControlProgram x = Scene.began(24, Code.waits(), Code.set(0, 3));
        x.run(1);
        x.stop(0);
        Check.due("resume", x.resume(0), true);
        Check.due("state", x.guest(0, 0), ControlProgram.RUNNING);
        Check.due("PSW", x.guest(0, 1), 25);
        Check.due("run(1)", x.run(1), 1);
        Check.due("it goes on", x.guest(0, 3), 3);
    }

    private static void resumeANew() {
        for (int g = 0; g < 3; g++) {
            ControlProgram x = new ControlProgram();
            x.store(g, 0, Code.set(0, 3));
            Check.due("resume", x.resume(g), true);
            x.run(1);
            Check.due("it begins at 0", x.guest(g, 3), 3);
        }
    }

    private static void resumeWithACode() {
        ControlProgram x = Scene.began(24 + Code.ENABLED);
        x.post(0, 0);
        x.stop(0);
        x.resume(0);
        Check.due("pending", x.guest(0, 7), 0);
        x.run(1);
        Check.kept(x, 2, 24 + Code.ENABLED, 0, 0);
    }

    private static void resumeKeepsCounts() {
        ControlProgram x = Scene.busy();
        ControlProgram as = Scene.busy();
        Check.due("resume", x.resume(2), true);
        Check.due("counts", Look.counts(x, 2), Look.counts(as, 2));
        Check.due("frames", Look.pages(x), Look.pages(as));
        for (int what = 1; what <= 7; what++) {
            Check.due("guest(2, " + what + ")", x.guest(2, what), as.guest(2, what));
        }
    }

    private static void isNotResumed(int g) {
        Scene.nothingChanges(x -> Check.due("resume(" + g + ")", x.resume(g), false));
    }

    private static void resumeTwice() {
        ControlProgram x = new ControlProgram();
        Check.due("resume", x.resume(1), true);
        Check.due("resume", x.resume(1), false);
        Check.due("state", x.guest(1, 0), ControlProgram.RUNNING);
    }
}
