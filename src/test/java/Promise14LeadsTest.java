final class Promise14LeadsTest {
    public static void main(String[] args) {
        notMappedItIsTheAddress();
        mappedItGoesByTheTable();
        everyEntry();
        theTableGoesRound();
        itIsAsThingsAre();
        itIsNoUse();
        outside();
        Check.end();
    }

    private static void notMappedItIsTheAddress() {
        ControlProgram x = new ControlProgram();
        x.start(1, 511 - Code.MAPPED);
        for (int a = 0; a < 64; a++) {
            Check.due("leads", x.leads(0, a, false), a);
            Check.due("leads", x.leads(1, a, true), a);
        }
        Check.due("leads 64", x.leads(0, 64, true), 0);
        Check.due("leads -1", x.leads(0, -1, false), 63);
        Check.due("leads the least", x.leads(0, Integer.MIN_VALUE, false), 0);
        Check.due("leads the greatest", x.leads(0, Integer.MAX_VALUE, false), 63);
    }

    private static void mappedItGoesByTheTable() {
        ControlProgram x = new ControlProgram();
        x.store(2, 0, Code.entry(7, false));
        x.store(2, 1, Code.entry(2, true));
        x.store(2, 2, Code.entry(6, true) - 1);
        x.store(2, 7, Code.entry(0, false));
        x.start(2, Code.MAPPED);
        for (int i = 0; i < 8; i++) {
            Check.due("leads for reading", x.leads(2, i, false), 56 + i);
            Check.due("leads for writing", x.leads(2, i, true), 56 + i);
            Check.due("leads for reading", x.leads(2, 8 + i, false), 16 + i);
            Check.due("leads for writing", x.leads(2, 8 + i, true), -5);
            Check.due("leads for reading", x.leads(2, 16 + i, false), -4);
            Check.due("leads for writing", x.leads(2, 16 + i, true), -4);
            Check.due("leads for reading", x.leads(2, 56 + i, false), i);
        }
        Check.due("leads of -1", x.leads(2, -1, true), 7);
        Check.due("leads of 73", x.leads(2, 73, false), 17);
        Check.due("another guest", x.leads(0, 3, false), 3);
    }

    private static void everyEntry() {
        ControlProgram x = new ControlProgram();
        x.start(0, Code.MAPPED);
        for (int low = 0; low < 32; low++) {
            int there = low & 1;
            int p = low >> 2;
            x.store(0, 3, low | -32);
            Check.due("leads", x.leads(0, 29, false), there == 0 ? -4 : 8 * p + 5);
            Check.due("leads", x.leads(0, 29, true), there == 0 ? -4 : (low & 2) != 0 ? -5 : 8 * p + 5);
        }
    }

    private static void theTableGoesRound() {
        ControlProgram x = new ControlProgram();
        Scene.program(x, 0, 16, Code.set(0, 60), Code.table(0), Code.psw(19), Code.MAPPED);
        x.start(0, 16);
        x.run(3);
        x.store(0, 63, Code.entry(1, false));
        x.store(0, 0, Code.entry(2, false));
        x.store(0, 3, Code.entry(3, false));
        Check.due("leads", x.leads(0, 24, false), 8);
        Check.due("leads", x.leads(0, 33, false), 17);
        Check.due("leads", x.leads(0, 63, false), 31);
    }

    private static void itIsAsThingsAre() {
        ControlProgram x = new ControlProgram();
        x.start(0, Code.MAPPED);
        Check.due("leads", x.leads(0, 5, false), -4);
        x.store(0, 0, Code.entry(4, true));
        Check.due("leads", x.leads(0, 5, false), 37);
        x.stop(0);
        Check.due("leads of a STOPPED guest", x.leads(0, 5, true), -5);
        x.start(0, 0);
        Check.due("leads", x.leads(0, 5, true), 5);
    }

    private static void itIsNoUse() {
        ControlProgram x = Scene.fullFrames();
        x.leads(0, 8, false);
        x.leads(0, 8, true);
        x.leads(2, 8, true);
        x.run(1);
        Check.due("frame(0, 1)", x.frame(0, 1), -1);
        Check.due("frame(2, 1)", x.frame(2, 1), -1);
        ControlProgram y = Scene.busy();
        y.start(0, 5 + Code.MAPPED);
        ControlProgram as = Scene.busy();
        as.start(0, 5 + Code.MAPPED);
        y.leads(0, 5, true);
        y.leads(0, 50, false);
        Check.due("looks", Look.at(y), Look.at(as));
    }

    private static void outside() {
        ControlProgram x = Scene.busy();
        for (int g : new int[] {-1, 3, Integer.MIN_VALUE, Integer.MAX_VALUE}) {
            Check.due("leads(" + g + ", 5, false)", x.leads(g, 5, false), ControlProgram.BAD);
            Check.due("leads(" + g + ", 5, true)", x.leads(g, 5, true), ControlProgram.BAD);
        }
    }
}
