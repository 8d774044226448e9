/** Promises 10 and 11: post, run. */
final class EdgePostAndRunTest {
    private static final int LEAST = Integer.MIN_VALUE;
    private static final int GREATEST = Integer.MAX_VALUE;

    public static void main(String[] args) {
        Edge.of(Sentence.P10)
            .at("the least code", () -> posts(0))
            .at("the greatest code", () -> posts(255))
            .at("in place of another", EdgePostAndRunTest::postsInPlaceOfAnother)
            .at("the same code again", EdgePostAndRunTest::postsTheSameAgain)
            .at("a STOPPED, a RUNNING and a WAITING guest", EdgePostAndRunTest::postsInEachState)
            .at("after the one before was taken", EdgePostAndRunTest::postsAfterOneWasTaken);
        Edge.of(Sentence.P10_FALSE)
            .at("g one too small", () -> isNotPosted(-1, 5))
            .at("g one too large", () -> isNotPosted(3, 5))
            .at("the least g", () -> isNotPosted(LEAST, 5))
            .at("the greatest g", () -> isNotPosted(GREATEST, 5))
            .at("the code one too small, nothing pending", () -> isNotPosted(0, -1))
            .at("the code one too small, another pending", () -> isNotPosted(1, -1))
            .at("the code one too large, nothing pending", () -> isNotPosted(0, 256))
            .at("the code one too large, another pending", () -> isNotPosted(1, 256))
            .at("the least code", () -> isNotPosted(1, LEAST))
            .at("the greatest code", () -> isNotPosted(1, GREATEST))
            .at("both", () -> isNotPosted(-1, 256));
        Edge.of(Sentence.P11)
            .at("no step, 0", EdgePostAndRunTest::runsNoStep)
            .at("one step", () -> runs(1))
            .at("99 steps", () -> runs(99))
            .at("the most, 100", () -> runs(100))
            .at("none can", EdgePostAndRunTest::noneCan)
            .at("the last one waits in the last step asked for", EdgePostAndRunTest::waitsInTheLastStep)
            .at("the last one waits a step earlier", EdgePostAndRunTest::waitsEarlier)
            .at("one waits, the others go on", EdgePostAndRunTest::othersGoOn);
        Edge.of(Sentence.P11_BAD)
            .at("one too small", () -> isNotRun(-1))
            .at("one too large", () -> isNotRun(101))
            .at("the least", () -> isNotRun(LEAST))
            .at("the greatest", () -> isNotRun(GREATEST))
            .at("one too large and none can", EdgePostAndRunTest::badThoughNoneCan);
        Check.end();
    }

    private static void posts(int code) {
        for (int g = 0; g < 3; g++) {
            ControlProgram x = new ControlProgram();
            Check.due("post", x.post(g, code), true);
            for (int other = 0; other < 3; other++) {
                Check.due("pending", x.guest(other, 7), other == g ? code : -1);
            }
        }
    }

    private static void postsInPlaceOfAnother() {
        ControlProgram x = new ControlProgram();
        x.post(2, 255);
        Check.due("post", x.post(2, 0), true);
        Check.due("pending", x.guest(2, 7), 0);
        Check.due("post", x.post(2, 254), true);
        Check.due("pending", x.guest(2, 7), 254);
    }

    private static void postsTheSameAgain() {
        ControlProgram x = Scene.began(24 + Code.ENABLED);
        x.store(0, 11, 40 + Code.ENABLED);
        Check.due("post", x.post(0, 6), true);
        Check.due("post", x.post(0, 6), true);
        x.run(3);
        Check.due("interrupts", x.guest(0, 10), 1);
    }

    private static void postsInEachState() {
        ControlProgram x = Scene.busy();
        for (int g = 0; g < 3; g++) {
            int state = x.guest(g, 0);
            Check.due("post", x.post(g, 20 + g), true);
            Check.due("pending", x.guest(g, 7), 20 + g);
            Check.due("state", x.guest(g, 0), state);
        }
    }

    private static void postsAfterOneWasTaken() {
        ControlProgram x = Scene.began(24 + Code.ENABLED);
        x.store(0, 11, 40 + Code.ENABLED);
        x.post(0, 6);
        x.run(1);
        Check.due("post", x.post(0, 7), true);
        x.run(1);
        Check.kept(x, 2, 40 + Code.ENABLED, 7, 0);
        Check.due("interrupts", x.guest(0, 10), 2);
    }

    private static void isNotPosted(int g, int code) {
        Scene.nothingChanges(x -> Check.due("post(" + g + ", " + code + ")", x.post(g, code), false));
    }

    private static void runsNoStep() {
        Scene.nothingChanges(x -> Check.due("run(0)", x.run(0), 0));
        ControlProgram x = new ControlProgram();
        x.start(1, 24);
        Check.due("run(0)", x.run(0), 0);
        Check.turn(x, 0, 4);
        Check.due("steps", x.guest(1, 9), 0);
    }

    private static void runs(int n) {
        ControlProgram x = Scene.began(0);
        Check.due("run(" + n + ")", x.run(n), n);
        Check.due("steps", x.guest(0, 9), n);
        Check.due("PSW", x.guest(0, 1), n % 64);
        ControlProgram three = Scene.began(0);
        three.start(1, 0);
        three.start(2, 0);
        Check.due("run(" + n + ")", three.run(n), n);
        Check.due("steps of all", three.guest(0, 9) + three.guest(1, 9) + three.guest(2, 9), n);
    }

    private static void noneCan() {
        ControlProgram x = new ControlProgram();
        Check.due("run(100)", x.run(100), 0);
        x.store(0, 24, Code.waits());
        x.start(0, 24);
        x.run(1);
        Check.due("run(100)", x.run(100), 0);
        Check.due("steps", x.guest(0, 9), 1);
    }

    private static void waitsInTheLastStep() {
        ControlProgram x = Scene.began(24, Code.set(0, 1), Code.set(0, 2), Code.waits());
        Check.due("run(3)", x.run(3), 3);
        Check.due("state", x.guest(0, 0), ControlProgram.WAITING);
    }

    private static void waitsEarlier() {
        ControlProgram x = Scene.began(24, Code.set(0, 1), Code.set(0, 2), Code.waits());
        Check.due("run(4)", x.run(4), 3);
        ControlProgram y = Scene.began(24, Code.set(0, 1), Code.set(0, 2), Code.waits());
        Check.due("run(100)", y.run(100), 3);
    }

    private static void othersGoOn() {
        ControlProgram x = Scene.began(24, Code.waits());
        x.store(1, 25, Code.waits());
        x.start(1, 24);
        x.start(2, 24);
        Check.due("run(100)", x.run(100), 100);
        Check.due("steps of 2", x.guest(2, 9), 97);
    }

    private static void isNotRun(int n) {
        Scene.nothingChanges(x -> Check.due("run(" + n + ")", x.run(n), ControlProgram.BAD));
    }

    private static void badThoughNoneCan() {
        ControlProgram x = new ControlProgram();
        Check.due("run(101)", x.run(101), ControlProgram.BAD);
        Check.due("run(-1)", x.run(-1), ControlProgram.BAD);
    }
}
