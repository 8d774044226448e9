final class Promise12GuestTest {
    public static void main(String[] args) {
        eachThingOfEachGuest();
        eachRegister();
        statesAndPsw();
        countsAreSinceStart();
        outsideItIsNought();
        itChangesNothing();
        Check.end();
    }

    private static void eachThingOfEachGuest() {
        ControlProgram x = Scene.busy();
        int[][] due = {
            {1, 28, 7, 5, 7, 0, 0, -1, 1, 4, 0},
            {2, 36, 0, -3, 0, 0, 0, 44, 2, 4, 0},
            {0, 16, 21, 21, 0, 0, 0, -1, 2, 3, 1},
        };
        for (int g = 0; g < 3; g++) {
            for (int what = 0; what <= 10; what++) {
                Check.due("guest(" + g + ", " + what + ")", x.guest(g, what), due[g][what]);
            }
        }
    }

    private static void eachRegister() {
        ControlProgram x = new ControlProgram();
        Scene.program(x, 2, 24, Code.set(0, 10), Code.set(1, 11), Code.set(2, 12), Code.set(3, 13));
        x.start(2, 24);
        x.run(4);
        for (int r = 0; r < 4; r++) {
            Check.due("register " + r, x.guest(2, 3 + r), 10 + r);
            Check.due("register " + r + " of another guest", x.guest(1, 3 + r), 0);
        }
    }

    private static void statesAndPsw() {
        Check.due("STOPPED", ControlProgram.STOPPED, 0);
        Check.due("RUNNING", ControlProgram.RUNNING, 1);
        Check.due("WAITING", ControlProgram.WAITING, 2);
        Check.due("BAD", ControlProgram.BAD, -1);
        ControlProgram x = new ControlProgram();
        for (int psw = 0; psw < 512; psw += 73) {
            x.start(1, psw);
            Check.due("PSW", x.guest(1, 1), psw);
        }
        x.post(1, 0);
        Check.due("pending", x.guest(1, 7), 0);
    }

    private static void countsAreSinceStart() {
        ControlProgram x = new ControlProgram();
        x.resume(0);
        x.store(0, 0, Code.call(0, 0));
        x.run(1);
        Check.due("pagings since the beginning", x.guest(0, 8), 1);
        Check.due("steps since the beginning", x.guest(0, 9), 1);
        Check.due("interrupts since the beginning", x.guest(0, 10), 1);
        x.stop(0);
        x.resume(0);
        Check.due("steps", x.guest(0, 9), 1);
        x.start(0, 40);
        Check.due("pagings since start", x.guest(0, 8), 0);
        Check.due("steps since start", x.guest(0, 9), 0);
        Check.due("interrupts since start", x.guest(0, 10), 0);
        x.store(0, 40, Code.NO_INSTRUCTION);
        x.store(0, 7, 40 + Code.ENABLED);
        x.store(0, 11, 56);
        x.run(1);
        x.post(0, 1);
        x.run(1);
        Check.due("pagings since start", x.guest(0, 8), 2);
        Check.due("steps since start", x.guest(0, 9), 2);
        Check.due("interrupts since start", x.guest(0, 10), 2);
    }

    private static void outsideItIsNought() {
        ControlProgram x = Scene.busy();
        for (int wrong : new int[] {-1, 11, 12, Integer.MIN_VALUE, Integer.MAX_VALUE}) {
            for (int g = 0; g < 3; g++) {
                Check.due("guest(" + g + ", " + wrong + ")", x.guest(g, wrong), 0);
            }
            for (int what = 0; what <= 10; what++) {
                Check.due("guest(" + wrong + ", " + what + ")", x.guest(wrong, what), 0);
            }
        }
        x.keep(0, 0);
        Check.due("guest(3, 0)", x.guest(3, 0), 0);
        Check.due("guest(3, 7)", x.guest(3, 7), 0);
    }

    private static void itChangesNothing() {
        ControlProgram x = Scene.busy();
        for (int g = -1; g < 4; g++) {
            for (int what = -1; what <= 11; what++) {
                x.guest(g, what);
            }
        }
        Check.due("looks", Look.at(x), Look.at(Scene.busy()));
    }
}
