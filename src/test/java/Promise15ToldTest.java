final class Promise15ToldTest {
    public static void main(String[] args) {
        theGuestAndTheInt();
        theLastEightAreKept();
        otherCallsLeaveIt();
        outsideThereIsNone();
        Check.end();
    }

    private static long due(int g, int value) {
        return 8589934592L * g + value + 4294967296L;
    }

    private static void tell(ControlProgram x, int g, int value) {
        x.store(g, 24, Code.load(1, 60));
        x.store(g, 25, Code.tell(1));
        x.store(g, 60, value);
        x.start(g, 24);
        x.run(2);
        x.stop(g);
    }

    private static void theGuestAndTheInt() {
        ControlProgram x = new ControlProgram();
        for (int g = 0; g < 3; g++) {
            for (int value : new int[] {0, 1, -1, Integer.MIN_VALUE, Integer.MAX_VALUE}) {
                tell(x, g, value);
                Check.due("told(0)", x.told(0), due(g, value));
            }
        }
        Check.due("the least", due(0, Integer.MIN_VALUE), 2147483648L);
        Check.due("the greatest", due(2, Integer.MAX_VALUE), 23622320127L);
    }

    private static void theLastEightAreKept() {
        ControlProgram x = new ControlProgram();
        for (int i = 0; i < 20; i++) {
            tell(x, i % 3, 100 + i);
            for (int k = 0; k < 8; k++) {
                Check.due("told(" + k + ")", x.told(k), k <= i ? due((i - k) % 3, 100 + i - k) : -1);
            }
        }
    }

    private static void otherCallsLeaveIt() {
        ControlProgram x = new ControlProgram();
        tell(x, 1, 5);
        x.copy(0, 1);
        x.keep(2, 0);
        x.back(1, 0);
        x.start(1, 40);
        x.run(3);
        Check.due("told(0)", x.told(0), due(1, 5));
        Check.due("told(1)", x.told(1), -1);
    }

    private static void outsideThereIsNone() {
        ControlProgram x = new ControlProgram();
        for (int i = 0; i < 9; i++) {
            tell(x, 0, i);
        }
        for (int k : new int[] {-1, 8, 9, 16, -8, Integer.MIN_VALUE, Integer.MAX_VALUE}) {
            Check.due("told(" + k + ")", x.told(k), -1);
        }
        Check.due("told(7)", x.told(7), due(0, 1));
    }
}
