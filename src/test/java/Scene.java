/** Objects that some tests begin with. */
final class Scene {
    private Scene() {
    }

    static void program(ControlProgram x, int g, int at, int... words) {
        for (int i = 0; i < words.length; i++) {
            x.store(g, at + i, words[i]);
        }
    }

    /**
     * Guest 0 RUNNING, guest 1 WAITING with a pending code, guest 2 STOPPED; each with registers, TABLE, counts and
     * pages in frames that differ from the others', something told, and guest 2 having the turn with 1 step left.
     */
    static ControlProgram busy() {
        ControlProgram x = new ControlProgram();
        program(x, 0, 24, Code.set(0, 5), Code.set(1, 7), Code.table(1), Code.tell(0), Code.go(27));
        program(x, 1, 32, Code.set(0, -3), Code.store(0, 40), Code.tell(0), Code.waits());
        x.store(2, 3, 16);
        program(x, 2, 16, Code.set(0, 21), Code.table(0), Code.call(9, 50));
        x.start(0, 24);
        x.start(1, 32);
        x.start(2, 16);
        x.run(11);
        x.post(1, 44);
        x.stop(2);
        return x;
    }

    /** Guest 0 has used page 1, then 2, 3, 4, 5, 6, and so they are in frames 0 to 5; guest 1 stays in its page 7. */
    static ControlProgram fullFrames() {
        ControlProgram x = new ControlProgram();
        x.store(0, 8, Code.go(16));
        x.store(0, 16, Code.go(24));
        x.store(0, 24, Code.go(32));
        x.store(0, 32, Code.go(40));
        x.store(0, 40, Code.go(48));
        x.store(0, 48, Code.go(48));
        x.start(0, 8);
        x.run(6);
        x.stop(0);
        x.store(1, 56, Code.go(56));
        x.start(1, 56);
        return x;
    }
}
