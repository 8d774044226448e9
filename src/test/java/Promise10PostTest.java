final class Promise10PostTest {
    public static void main(String[] args) {
        aCodeIsPendingInPlaceOfAnyOther();
        itIsTakenOnceTheGuestIsEnabled();
        itIsPendingInAnyState();
        wrongOnesPostNothing();
        Check.end();
    }

    private static void aCodeIsPendingInPlaceOfAnyOther() {
        ControlProgram x = new ControlProgram();
        for (int code : new int[] {0, 255, 1, 0}) {
            Check.due("post(1, " + code + ")", x.post(1, code), true);
            Check.due("pending", x.guest(1, 7), code);
        }
        Check.due("pending of others", x.guest(0, 7), -1);
        Check.due("pending of others", x.guest(2, 7), -1);
    }

    private static void itIsTakenOnceTheGuestIsEnabled() {
        ControlProgram x = new ControlProgram();
        x.store(0, 11, 40);
        Scene.program(x, 0, 24, Code.set(0, 1), Code.psw(30));
        x.store(0, 30, 32 + Code.ENABLED);
        x.start(0, 24);
        x.post(0, 200);
        x.run(2);
        Check.due("pending", x.guest(0, 7), 200);
        Check.due("interrupts", x.guest(0, 10), 0);
        x.run(1);
        Check.due("pending", x.guest(0, 7), -1);
        Check.due("interrupts", x.guest(0, 10), 1);
        Check.due("PSW kept", x.word(0, 8), 32 + Code.ENABLED);
        Check.due("code", x.word(0, 9), 200);
        Check.due("address", x.word(0, 10), 0);
        Check.due("PSW", x.guest(0, 1), 40);
        x.run(3);
        Check.due("one interrupt only", x.guest(0, 10), 1);
    }

    private static void itIsPendingInAnyState() {
        ControlProgram x = Scene.busy();
        for (int g = 0; g < 3; g++) {
            int state = x.guest(g, 0);
            Check.due("post", x.post(g, 20 + g), true);
            Check.due("pending", x.guest(g, 7), 20 + g);
            Check.due("state", x.guest(g, 0), state);
        }
    }

    private static void wrongOnesPostNothing() {
        ControlProgram x = Scene.busy();
        for (int g : new int[] {-1, 3, Integer.MIN_VALUE, Integer.MAX_VALUE}) {
            Check.due("post(" + g + ", 1)", x.post(g, 1), false);
        }
        for (int code : new int[] {-1, 256, Integer.MIN_VALUE, Integer.MAX_VALUE}) {
            for (int g = 0; g < 3; g++) {
                Check.due("post(" + g + ", " + code + ")", x.post(g, code), false);
            }
        }
        Check.due("looks", Look.at(x), Look.at(Scene.busy()));
    }
}
