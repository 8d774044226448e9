import java.util.function.Consumer;

/** Objects that some tests begin with. */
final class Scene {
    private Scene() {
    }

    static void program(ControlProgram x, int g, int at, int... words) {
        for (int i = 0; i < words.length; i++) {
            x.store(g, at + i, words[i]);
        }
    }

    /**
     * Guest 0 RUNNING, guest 1 WAITING with a pending code, guest 2 STOPPED; each with registers, TABLE, counts and
     * pages in frames that differ from the others', something told, and guest 2 having the turn with 1 step left.
     */
    static ControlProgram busy() {
        ControlProgram x = new ControlProgram();
        program(x, 0, 24, Code.set(0, 5), Code.set(1, 7), Code.table(1), Code.tell(0), Code.go(27));
        program(x, 1, 32, Code.set(0, -3), Code.store(0, 40), Code.tell(0), Code.waits());
        x.store(2, 3, 16);
        program(x, 2, 16, Code.set(0, 21), Code.table(0), Code.call(9, 50));
        x.start(0, 24);
        x.start(1, 32);
        x.start(2, 16);
        x.run(11);
        x.post(1, 44);
        x.stop(2);
        return x;
    }

    /**
     * All guests RUNNING at 24, with no register, TABLE, pending code or count of 0, and different ones in each; guest
     * 0 is kept in slot 0, guest 1 in slot 1.
     */
    static ControlProgram everything() {
        ControlProgram x = new ControlProgram();
        for (int g = 0; g < 3; g++) {
            program(x, g, 16, Code.set(0, 10 * g + 1), Code.set(1, 10 * g + 2), Code.set(2, 10 * g + 3),
                Code.set(3, 10 * g + 4), Code.table(3), Code.call(1, 1));
            x.store(g, 3, 24);
            x.start(g, 16);
            x.run(6);
            x.stop(g);
        }
        for (int g = 0; g < 3; g++) {
            x.resume(g);
            x.post(g, 9 + g);
        }
        x.keep(0, 0);
        x.keep(1, 1);
        return x;
    }

    /** Guest 0 has used page 1, then 2, 3, 4, 5, 6, and so they are in frames 0 to 5; guest 1 stays in its page 7. */
    static ControlProgram fullFrames() {
        ControlProgram x = new ControlProgram();
        x.store(0, 8, Code.go(16));
        x.store(0, 16, Code.go(24));
        x.store(0, 24, Code.go(32));
        x.store(0, 32, Code.go(40));
        x.store(0, 40, Code.go(48));
        x.store(0, 48, Code.go(48));
        x.start(0, 8);
        x.run(6);
        x.stop(0);
        x.store(1, 56, Code.go(56));
        x.start(1, 56);
        return x;
    }

    /** Guest 0 RUNNING with this PSW, these words at its address and behind it (0 behind 63). */
    static ControlProgram began(int psw, int... words) {
        ControlProgram x = new ControlProgram();
        for (int i = 0; i < words.length; i++) {
            x.store(0, psw + i & 63, words[i]);
        }
        x.start(0, psw);
        return x;
    }

    /**
     * Guest 0 has TABLE and is MAPPED, after three steps in page 2. The next instruction is the word given: it stands
     * at 24 and is led to by the table from page 1, or from page 2 if page 1 is the page that has the entry given.
     * Interrupt 1 goes on at 48.
     */
    static ControlProgram mapped(int table, int page, int entry, int word) {
        ControlProgram x = new ControlProgram();
        x.store(0, 7, 48);
        x.store(0, table + codePage(page) & 63, Code.entry(3, false));
        x.store(0, table + page & 63, entry);
        program(x, 0, 16, Code.set(0, table), Code.table(0), Code.psw(19), mappedPsw(page));
        x.store(0, 24, word);
        x.start(0, 16);
        x.run(3);
        return x;
    }

    /** The PSW that guest 0 of mapped has. */
    static int mappedPsw(int page) {
        return Code.MAPPED + 8 * codePage(page);
    }

    private static int codePage(int page) {
        return page == 1 ? 2 : 1;
    }

    /** Guest g uses its page p alone, and is STOPPED then; its PAGINGS are 1 if the page came in, else 0. */
    static void touch(ControlProgram x, int g, int p) {
        int at = 8 * p + 4;
        x.store(g, at, Code.go(at));
        x.start(g, at);
        x.run(1);
        x.stop(g);
    }

    /** Looks that the call, made on a busy object that has kept guest 0 in slot 0, changes nothing. */
    static void nothingChanges(Consumer<ControlProgram> call) {
        ControlProgram x = busyAndKept();
        call.accept(x);
        Check.due("all that can be seen", Look.at(x), Look.at(busyAndKept()));
        ControlProgram later = busyAndKept();
        call.accept(later);
        Check.due("all that can be seen later", Look.at(goneOn(later)), Look.at(goneOn(busyAndKept())));
    }

    private static ControlProgram busyAndKept() {
        ControlProgram x = busy();
        x.keep(0, 0);
        return x;
    }

    /** Shows what was kept, and by the pages that go out which were used longest ago. */
    private static ControlProgram goneOn(ControlProgram x) {
        x.back(1, 1);
        x.back(2, 0);
        for (int p = 4; p < 8; p++) {
            touch(x, 0, p);
        }
        x.resume(1);
        x.run(9);
        return x;
    }
}
