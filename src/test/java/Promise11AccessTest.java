/** Access in steps: mapped reading and writing, PROGRAM 4 and 5. */
final class Promise11AccessTest {
    private static final int TABLE = 56;

    public static void main(String[] args) {
        mappedWordsAreReadAndWritten();
        whatIsNotThere();
        whatIsNotForWriting();
        theInstructionItselfNotThere();
        pswByTheTable();
        registersAddressesGoByTheTable();
        theTableGoesRound();
        readingAnEntryIsNoUse();
        Check.end();
    }

    /**
     * Guest 0 MAPPED and with PROBLEM at address 0: page 0 leads to page 3, page 1 to page 4, page 2 to page 5 but not
     * for writing, page 3 and the others are not there; an interrupt 1 goes on at 40.
     */
    private static ControlProgram mapped(int... words) {
        ControlProgram x = new ControlProgram();
        x.store(0, TABLE, Code.entry(3, false));
        x.store(0, TABLE + 1, Code.entry(4, false));
        x.store(0, TABLE + 2, Code.entry(5, true));
        x.store(0, TABLE + 3, Code.entry(6, true) - 1);
        x.store(0, 7, 48);
        x.store(0, 16, Code.set(0, TABLE));
        x.store(0, 17, Code.table(0));
        x.store(0, 18, Code.psw(19));
        x.store(0, 19, Code.MAPPED + Code.PROBLEM);
        Scene.program(x, 0, 24, words);
        x.start(0, 16);
        x.run(3);
        return x;
    }

    private static void programInterrupt(ControlProgram x, int at, int code, int address) {
        Check.due("PSW kept", x.word(0, 4), at + Code.MAPPED + Code.PROBLEM);
        Check.due("code", x.word(0, 5), code);
        Check.due("address", x.word(0, 6), address);
        Check.due("PSW", x.guest(0, 1), 48);
        Check.due("interrupts", x.guest(0, 10), 1);
    }

    private static void mappedWordsAreReadAndWritten() {
        ControlProgram x = mapped(Code.load(1, 10), Code.add(1, 23), Code.store(1, 15));
        x.store(0, 34, 700);
        x.store(0, 47, 7);
        x.run(1);
        Check.due("LOAD", x.guest(0, 4), 700);
        x.run(1);
        Check.due("ADD", x.guest(0, 4), 707);
        x.run(1);
        Check.due("STORE", x.word(0, 39), 707);
        Check.due("PSW", x.guest(0, 1), 3 + Code.MAPPED + Code.PROBLEM);
        Check.due("interrupts", x.guest(0, 10), 0);
        Check.due("not the word itself", x.word(0, 15), 0);
    }

    private static void whatIsNotThere() {
        for (int word : new int[] {Code.load(2, 29), Code.store(2, 29), Code.add(2, 29)}) {
            ControlProgram x = mapped(Code.set(2, 6), word);
            x.store(0, 53, 99);
            x.run(2);
            programInterrupt(x, 1, 4, 29);
            Check.due("nothing is done", x.guest(0, 5), 6);
            Check.due("nothing is done", x.word(0, 53), 99);
            Check.due("nothing is used", x.frame(0, 6), -1);
        }
    }

    private static void whatIsNotForWriting() {
        ControlProgram x = mapped(Code.set(2, 6), Code.load(3, 17), Code.store(2, 17));
        x.store(0, 41, 99);
        x.run(2);
        Check.due("but for reading", x.guest(0, 6), 99);
        x.run(1);
        programInterrupt(x, 2, 5, 17);
        Check.due("nothing is done", x.word(0, 41), 99);
        ControlProgram y = mapped(Code.store(0, 17));
        y.run(1);
        programInterrupt(y, 0, 5, 17);
        Check.due("nothing is used", y.frame(0, 5), -1);
        Check.due("the instruction's word is used", y.frame(0, 3), 1);
    }

    private static void theInstructionItselfNotThere() {
        ControlProgram x = mapped(Code.go(30));
        x.run(1);
        Check.due("interrupts", x.guest(0, 10), 0);
        x.run(1);
        programInterrupt(x, 30, 4, 30);
        Check.due("steps", x.guest(0, 9), 5);
        Check.due("nothing is used", x.frame(0, 6), -1);
        ControlProgram y = mapped(Code.go(16));
        y.store(0, 40, Code.set(1, 12));
        y.run(2);
        Check.due("an instruction in a page not for writing", y.guest(0, 4), 12);
    }

    private static void pswByTheTable() {
        ControlProgram x = new ControlProgram();
        x.store(0, 7, 48);
        x.store(0, 0, Code.entry(3, false));
        x.store(0, 1, Code.entry(4, true));
        x.store(0, 24, Code.psw(9));
        x.store(0, 33, 50 + Code.PROBLEM);
        x.start(0, Code.MAPPED);
        x.run(1);
        Check.due("PSW", x.guest(0, 1), 50 + Code.PROBLEM);
        x.store(0, 24, Code.psw(16));
        x.start(0, Code.MAPPED);
        x.run(1);
        Check.due("PSW", x.guest(0, 1), 48);
        Check.due("PSW kept", x.word(0, 4), Code.MAPPED);
        Check.due("code", x.word(0, 5), 4);
        Check.due("address", x.word(0, 6), 16);
    }

    private static void registersAddressesGoByTheTable() {
        ControlProgram x = mapped(Code.set(1, 64 + 10), Code.set(2, 64 + 17), Code.place(2, 1), Code.fetch(3, 2),
            Code.place(1, 2));
        x.store(0, 41, 55);
        x.run(3);
        Check.due("PLACE", x.word(0, 34), 81);
        x.run(1);
        Check.due("FETCH", x.guest(0, 6), 55);
        x.run(1);
        programInterrupt(x, 4, 5, 17);
        Check.due("PLACE did nothing", x.word(0, 41), 55);
        ControlProgram y = mapped(Code.set(1, -1), Code.fetch(2, 1));
        y.run(2);
        programInterrupt(y, 1, 4, 63);
    }

    private static void theTableGoesRound() {
        ControlProgram x = new ControlProgram();
        x.store(0, 16, Code.set(0, 62));
        x.store(0, 17, Code.table(0));
        x.store(0, 18, Code.psw(19));
        x.store(0, 19, Code.MAPPED + 16);
        // TABLE is 62, so the entry for page 2 is the word 0.
        x.store(0, 0, Code.entry(7, false));
        x.store(0, 56, Code.set(3, 8));
        x.start(0, 16);
        x.run(4);
        Check.due("SET", x.guest(0, 6), 8);
        Check.due("leads", x.leads(0, 18, true), 58);
    }

    private static void readingAnEntryIsNoUse() {
        ControlProgram x = mapped(Code.load(1, 10));
        x.run(1);
        Check.due("frame of the table", x.frame(0, 7), -1);
        Check.due("pagings", x.guest(0, 8), 3);
    }
}
