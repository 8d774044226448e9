import java.util.Map;

/** Terms: a step, with the table of instructions. */
final class EdgeStepTest {
    private static final int LEAST = Integer.MIN_VALUE;
    private static final int GREATEST = Integer.MAX_VALUE;
    private static final int LEAST_C = -524288;
    private static final int GREATEST_C = 524287;

    public static void main(String[] args) {
        Edge.of(Sentence.EXTERNAL_STEP)
            .at("ENABLED and nothing pending", EdgeStepTest::enabledAlone)
            .at("pending and not ENABLED", EdgeStepTest::pendingAlone)
            .at("the least code, 0", () -> externalKeeps(0))
            .at("the greatest code, 255", () -> externalKeeps(255))
            .at("the next step, still ENABLED: nothing is pending", EdgeStepTest::onceOnly)
            .at("nothing else is done in the step", EdgeStepTest::externalIsTheStep)
            .at("an instruction that would be refused", EdgeStepTest::externalBeforeRefusal)
            .at("with PROBLEM and MAPPED, and without", EdgeStepTest::externalWithEachBit)
            .at("a WAITING guest", EdgeStepTest::externalOfAWaitingGuest);
        Edge.of(Sentence.INSTRUCTION_STEP)
            .at("the address before the last", () -> addressGoesOn(62, 63))
            .at("the last address", () -> addressGoesOn(63, 0))
            .at("the last address, each kind of instruction", EdgeStepTest::eachKindGoesRound)
            .at("the bits stay when the address goes round", EdgeStepTest::bitsStayWhenGoingRound)
            .at("MAPPED: the instruction is the word led to", EdgeStepTest::mappedInstruction);
        fields();
        storageInstructions();
        numberInstructions();
        jumps();
        registerAddresses();
        supervisorInstructions();
        Check.end();
    }

    private static void fields() {
        Edge.of(Sentence.FIELDS)
            .at("every field 0", EdgeStepTest::everyFieldLeast)
            .at("every field as great as can be", EdgeStepTest::everyFieldGreatest)
            .at("c below 0: w >> 12 keeps the sign", EdgeStepTest::cIsSigned)
            .at("each field's bits next to the others'", EdgeStepTest::fieldsDoNotMix);
    }

    private static void storageInstructions() {
        Edge.of(Sentence.LOAD)
            .at("its own word", () -> Check.due("LOAD", after(0, Code.load(1, 16)).guest(0, 4), Code.load(1, 16)))
            .at("a word already in r", () -> Check.due("LOAD", after(5, Code.load(1, 40)).guest(0, 4), 5))
            .at("it changes nothing else, of any guest", () -> changes(Code.load(1, 42), "register 1", 142));
        Edge.of(Sentence.STORE)
            .at("its own word", EdgeStepTest::storeOverItself)
            .at("the next instruction", EdgeStepTest::storeOverTheNext)
            .at("r stays", () -> Check.due("register", after(7, Code.store(1, 50)).guest(0, 4), 7))
            .at("it changes nothing else, of any guest", () -> changes(Code.store(1, 42), "word 42", 41));
        Edge.of(Sentence.ADD)
            .at("1 to the greatest int", () -> sum(GREATEST, 1, LEAST))
            .at("-1 to the least int", () -> sum(LEAST, -1, GREATEST))
            .at("the least int to itself", () -> sum(LEAST, LEAST, 0))
            .at("0", () -> sum(7, 0, 7))
            .at("the word stays", EdgeStepTest::addLeavesTheWord)
            .at("it changes nothing else, of any guest", () -> changes(Code.add(1, 42), "register 1", 183));
    }

    private static void numberInstructions() {
        Edge.of(Sentence.SET)
            .at("the least c", () -> Check.due("SET", after(9, Code.set(1, LEAST_C)).guest(0, 4), LEAST_C))
            .at("the greatest c", () -> Check.due("SET", after(9, Code.set(1, GREATEST_C)).guest(0, 4), GREATEST_C))
            .at("-1", () -> Check.due("SET", after(9, Code.set(1, -1)).guest(0, 4), -1))
            .at("0", () -> Check.due("SET", after(9, Code.set(1, 0)).guest(0, 4), 0))
            .at("it changes nothing else, of any guest", () -> changes(Code.set(1, 5), "register 1", 5));
        Edge.of(Sentence.MORE)
            .at("1 to the greatest int", () -> more(GREATEST, 1, LEAST))
            .at("-1 to the least int", () -> more(LEAST, -1, GREATEST))
            .at("the least c", () -> more(0, LEAST_C, LEAST_C))
            .at("the greatest c", () -> more(0, GREATEST_C, GREATEST_C))
            .at("0", () -> more(-3, 0, -3))
            .at("it changes nothing else, of any guest", () -> changes(Code.more(1, 5), "register 1", 46));
    }

    private static void jumps() {
        Edge.of(Sentence.GO)
            .at("the first address", () -> goesOnAt(0, Code.go(0), 0))
            .at("the last address", () -> goesOnAt(0, Code.go(63), 63))
            .at("its own address", () -> goesOnAt(0, Code.go(16), 16))
            .at("the bits stay", EdgeStepTest::goKeepsTheBits)
            .at("it changes nothing else, of any guest", () -> changes(Code.go(60), "PSW", 60));
        Edge.of(Sentence.ZERO)
            .at("0", () -> goesOnAt(0, Code.zero(1, 63), 63))
            .at("1", () -> goesOnAt(1, Code.zero(1, 63), 17))
            .at("-1", () -> goesOnAt(-1, Code.zero(1, 63), 17))
            .at("the least int", () -> goesOnAt(LEAST, Code.zero(1, 63), 17))
            .at("the greatest int", () -> goesOnAt(GREATEST, Code.zero(1, 63), 17))
            .at("it changes nothing else, of any guest", () -> changes(Code.zero(1, 60), "PSW", 32));
        Edge.of(Sentence.BELOW)
            .at("0", () -> goesOnAt(0, Code.below(1, 0), 17))
            .at("1", () -> goesOnAt(1, Code.below(1, 0), 17))
            .at("-1", () -> goesOnAt(-1, Code.below(1, 0), 0))
            .at("the least int", () -> goesOnAt(LEAST, Code.below(1, 0), 0))
            .at("the greatest int", () -> goesOnAt(GREATEST, Code.below(1, 0), 17))
            .at("it changes nothing else, of any guest", () -> changes(Code.below(1, 60), "PSW", 32));
    }

    private static void registerAddresses() {
        Edge.of(Sentence.FETCH)
            .at("the first register, c 0", () -> fetches(0, 0))
            .at("the last register, c 3", () -> fetches(3, 3))
            .at("c one too great, 4", () -> fetches(4, 0))
            .at("c below 0, -1", () -> fetches(-1, 3))
            .at("the least c", () -> fetches(LEAST_C, 0))
            .at("the greatest c", () -> fetches(GREATEST_C, 3))
            .at("r is the register of the address", EdgeStepTest::fetchByItself)
            .at("it changes nothing else, of any guest", () -> changes(Code.fetch(1, 2), "register 1", 142));
        Edge.of(Sentence.PLACE)
            .at("the first register, c 0", () -> places(0, 0))
            .at("the last register, c 3", () -> places(3, 3))
            .at("c one too great, 4", () -> places(4, 0))
            .at("c below 0, -1", () -> places(-1, 3))
            .at("the least c", () -> places(LEAST_C, 0))
            .at("the greatest c", () -> places(GREATEST_C, 3))
            .at("r is the register of the address", EdgeStepTest::placeByItself)
            .at("it changes nothing else, of any guest", () -> changes(Code.place(1, 2), "word 42", 41));
    }

    private static void supervisorInstructions() {
        Edge.of(Sentence.CALL)
            .at("the least code", () -> calls(0, 0, 5))
            .at("the greatest code", () -> calls(255, 255, 5))
            .at("a code one too great", () -> calls(256, 0, 5))
            .at("a code below 0", () -> calls(-1, 255, 5))
            .at("the least c", () -> calls(LEAST_C, 0, 5))
            .at("the greatest c", () -> calls(GREATEST_C, 255, 5))
            .at("the first address", () -> calls(1, 1, 0))
            .at("the last address", () -> calls(1, 1, 63))
            .at("an address that is not there", EdgeStepTest::callDoesNotAccess)
            .at("with PROBLEM it is not refused", EdgeStepTest::callWithProblem);
        Edge.of(Sentence.PSW)
            .at("the address is not 1 more", () -> Check.due("PSW", after(40, Code.psw(40)).guest(0, 1), 40))
            .at("the last address", () -> Check.due("PSW", after(63, Code.psw(40)).guest(0, 1), 63))
            .at("all bits", () -> Check.due("PSW", after(511, Code.psw(40)).guest(0, 1), 511))
            .at("its own word", () -> Check.due("PSW", after(0, Code.psw(16)).guest(0, 1), Code.psw(16) & 511))
            .at("it changes nothing else, of any guest", () -> changes(Code.psw(42), "PSW", 142));
        Edge.of(Sentence.TABLE)
            .at("0", () -> Check.due("TABLE", after(0, Code.table(1)).guest(0, 2), 0))
            .at("63", () -> Check.due("TABLE", after(63, Code.table(1)).guest(0, 2), 63))
            .at("64", () -> Check.due("TABLE", after(64, Code.table(1)).guest(0, 2), 0))
            .at("-1", () -> Check.due("TABLE", after(-1, Code.table(1)).guest(0, 2), 63))
            .at("the least int", () -> Check.due("TABLE", after(LEAST, Code.table(1)).guest(0, 2), 0))
            .at("the greatest int", () -> Check.due("TABLE", after(GREATEST, Code.table(1)).guest(0, 2), 63))
            .at("it changes nothing else, of any guest", () -> changes(Code.table(1), "TABLE", 41));
        Edge.of(Sentence.TELL)
            .at("the least int", () -> Check.due("told", after(LEAST, Code.tell(1)).told(0), 2147483648L))
            .at("the greatest int", () -> Check.due("told", after(GREATEST, Code.tell(1)).told(0), 6442450943L))
            .at("0", () -> Check.due("told", after(0, Code.tell(1)).told(0), 4294967296L))
            .at("it changes nothing else, of any guest", EdgeStepTest::tellChanges);
        Edge.of(Sentence.WAIT)
            .at("no other guest", EdgeStepTest::waitAlone)
            .at("a code pending, not ENABLED", EdgeStepTest::waitNotEnabled)
            .at("a code pending, ENABLED: the interrupt comes first", EdgeStepTest::waitEnabled)
            .at("it changes nothing else, of any guest", () -> changes(Code.waits(), "state", ControlProgram.WAITING));
        Edge.of(Sentence.NO_INSTRUCTION)
            .at("all other bits 0", () -> isNoInstruction(15, 20))
            .at("all other bits 1", () -> isNoInstruction(-1, 20))
            .at("with PROBLEM it is still 1", () -> isNoInstruction(15, 20 + Code.PROBLEM))
            .at("the first address", () -> isNoInstruction(15, 0))
            .at("the last address", () -> isNoInstruction(15, 63))
            .at("one less, 14, is an instruction", () -> Check.due("interrupts", after(0, 14).guest(0, 10), 0));
        Edge.of(Sentence.PROBLEM)
            .at("10, the last that is not refused", () -> Check.due("code", problem(20, 10).word(0, 5), 0))
            .at("11, the first that is refused", () -> isRefused(20, Code.psw(40)))
            .at("12", () -> isRefused(20, Code.table(1)))
            .at("13", () -> isRefused(20, Code.tell(1)))
            .at("14, the last that is refused", () -> isRefused(20, Code.waits()))
            .at("at the last address", () -> isRefused(63, Code.tell(1)))
            .at("0 to 9 are not refused", EdgeStepTest::plainOnesAreNotRefused)
            .at("not PROBLEM: 11 to 14 are not refused", EdgeStepTest::supervisorIsNotRefused)
            .at("PSW of a word that is not there: it is 2", EdgeStepTest::refusedBeforeAccess);
    }

    /** Register 1 was value, from the word at 40; then the instruction at 16 was carried out. */
    private static ControlProgram after(int value, int word) {
        ControlProgram x = Scene.began(15, Code.load(1, 40), word);
        x.store(0, 40, value);
        x.run(2);
        return x;
    }

    /** Registers 0 to 3 of guest g are 40 to 43, and with 100 more in their words; TABLE is 50, and it is at 31. */
    private static ControlProgram registersFull(int g, int word) {
        ControlProgram x = Scene.everything();
        for (int r = 0; r < 4; r++) {
            x.store(g, 40 + r, 140 + r);
            x.store(g, 27 + r, Code.set(r, 40 + r));
        }
        Scene.program(x, g, 25, Code.set(0, 50), Code.table(0));
        x.store(g, 31, word);
        for (int other = 0; other < 3; other++) {
            x.stop(other);
        }
        x.start(g, 25);
        x.run(6);
        return x;
    }

    /** The instruction goes on at the next address, unless this is the thing named, and changes that one thing more. */
    private static void changes(int word, String thing, long value) {
        for (int g = 0; g < 3; g++) {
            ControlProgram x = registersFull(g, word);
            Map<String, Long> due = Look.things(registersFull(g, word));
            due.put(g + " PSW", 32L);
            due.put(g + " " + thing, value);
            x.run(1);
            Check.due("all things", Look.things(x).toString(), due.toString());
        }
    }

    private static void tellChanges() {
        for (int g = 0; g < 3; g++) {
            ControlProgram x = registersFull(g, Code.tell(1));
            Map<String, Long> due = Look.things(registersFull(g, Code.tell(1)));
            due.put(g + " PSW", 32L);
            due.put("told 0", 8589934592L * g + 4294967296L + 41);
            x.run(1);
            Check.due("all things", Look.things(x).toString(), due.toString());
        }
    }

    private static void enabledAlone() {
        ControlProgram x = Scene.began(16 + Code.ENABLED, Code.set(0, 3));
        x.run(1);
        Check.due("SET", x.guest(0, 3), 3);
        Check.due("interrupts", x.guest(0, 10), 0);
        Check.due("PSW", x.guest(0, 1), 17 + Code.ENABLED);
    }

    private static void pendingAlone() {
        ControlProgram x = Scene.began(16 + Code.PROBLEM, Code.set(0, 3));
        x.post(0, 0);
        x.run(1);
        Check.due("SET", x.guest(0, 3), 3);
        Check.due("interrupts", x.guest(0, 10), 0);
        Check.due("pending", x.guest(0, 7), 0);
    }

    private static void externalKeeps(int code) {
        ControlProgram x = Scene.began(16 + Code.ENABLED, Code.set(0, 3));
        x.store(0, 9, -7);
        x.store(0, 10, -7);
        x.store(0, 11, 40);
        x.post(0, code);
        x.run(1);
        Check.kept(x, 2, 16 + Code.ENABLED, code, 0);
        Check.due("pending", x.guest(0, 7), -1);
        Check.due("PSW", x.guest(0, 1), 40);
    }

    private static void onceOnly() {
        ControlProgram x = Scene.began(16 + Code.ENABLED);
        x.store(0, 11, 40 + Code.ENABLED);
        x.store(0, 40, Code.set(0, 3));
        x.post(0, 5);
        x.run(2);
        Check.due("interrupts", x.guest(0, 10), 1);
        Check.due("SET", x.guest(0, 3), 3);
    }

    private static void externalIsTheStep() {
        ControlProgram x = Scene.began(16 + Code.ENABLED, Code.set(0, 3));
        x.store(0, 11, 40);
        x.store(0, 40, Code.set(0, 4));
        x.post(0, 5);
        x.run(1);
        Check.due("steps", x.guest(0, 9), 1);
        Check.due("register", x.guest(0, 3), 0);
        Check.due("frames", Look.pages(x), "0.1 - - - - -");
    }

    private static void externalBeforeRefusal() {
        ControlProgram notThere = Scene.began(16 + Code.ENABLED + Code.MAPPED);
        notThere.store(0, 11, 40);
        notThere.post(0, 5);
        notThere.run(1);
        Check.kept(notThere, 2, 16 + Code.ENABLED + Code.MAPPED, 5, 0);
        Check.due("interrupts", notThere.guest(0, 10), 1);
        ControlProgram none = Scene.began(16 + Code.ENABLED, Code.NO_INSTRUCTION);
        none.store(0, 11, 40);
        none.post(0, 5);
        none.run(1);
        Check.due("PSW", none.guest(0, 1), 40);
    }

    private static void externalWithEachBit() {
        for (int bits = 0; bits < 4; bits++) {
            int psw = 63 + Code.ENABLED + bits * Code.PROBLEM;
            ControlProgram x = Scene.began(psw);
            x.store(0, 11, 40);
            x.post(0, 5);
            x.run(1);
            Check.kept(x, 2, psw, 5, 0);
            Check.due("PSW", x.guest(0, 1), 40);
        }
    }

    private static void externalOfAWaitingGuest() {
        ControlProgram x = Scene.began(16 + Code.ENABLED, Code.waits());
        x.store(0, 11, 40);
        x.run(1);
        Check.due("no step without a code", x.run(1), 0);
        x.post(0, 0);
        Check.due("a step", x.run(1), 1);
        Check.due("steps", x.guest(0, 9), 2);
        Check.due("pending", x.guest(0, 7), -1);
        Check.due("state", x.guest(0, 0), ControlProgram.RUNNING);
    }

    private static void addressGoesOn(int at, int next) {
        ControlProgram x = Scene.began(at, Code.set(0, 3));
        x.run(1);
        Check.due("PSW", x.guest(0, 1), next);
    }

    private static void eachKindGoesRound() {
        int[] words = {Code.load(0, 40), Code.store(0, 40), Code.add(0, 40), Code.set(0, 1), Code.more(0, 1),
            Code.zero(2, 40), Code.below(2, 40), Code.fetch(0, 3), Code.place(0, 3), Code.table(0), Code.tell(0),
            Code.waits()};
        for (int word : words) {
            // Register 2 is 1, so that ZERO and BELOW go on with the next address.
            ControlProgram x = Scene.began(62, Code.set(2, 1), word);
            x.run(2);
            Check.due("PSW after op " + (word & 15), x.guest(0, 1), 0);
        }
    }

    private static void bitsStayWhenGoingRound() {
        ControlProgram x = Scene.began(63 + Code.PROBLEM + Code.ENABLED, Code.set(0, 3));
        x.run(1);
        Check.due("PSW", x.guest(0, 1), Code.PROBLEM + Code.ENABLED);
        ControlProgram y = Scene.began(511);
        y.store(0, 7, Code.entry(4, false));
        y.store(0, 39, Code.set(0, 3));
        y.run(1);
        Check.due("SET", y.guest(0, 3), 3);
        Check.due("PSW", y.guest(0, 1), 448);
    }

    private static void mappedInstruction() {
        ControlProgram x = Scene.mapped(32, 5, 0, Code.set(3, 8));
        x.run(1);
        Check.due("SET", x.guest(0, 6), 8);
        Check.due("PSW", x.guest(0, 1), Scene.mappedPsw(5) + 1);
    }

    private static void everyFieldLeast() {
        ControlProgram x = Scene.began(16, 0);
        x.store(0, 0, 44);
        x.run(1);
        Check.due("LOAD of register 0 from 0", x.guest(0, 3), 44);
    }

    private static void everyFieldGreatest() {
        // All bits but the op's are 1: register 3, address 63.
        ControlProgram x = Scene.began(16, -16);
        x.store(0, 63, 44);
        x.run(1);
        Check.due("LOAD of register 3 from 63", x.guest(0, 6), 44);
        ControlProgram y = Scene.began(16, -16 | 3);
        y.run(1);
        Check.due("SET of register 3 to -1", y.guest(0, 6), -1);
        ControlProgram z = Scene.began(16, GREATEST & -16 | 3);
        z.run(1);
        Check.due("SET of register 3 to the greatest c", z.guest(0, 6), GREATEST_C);
    }

    private static void cIsSigned() {
        ControlProgram x = Scene.began(16, LEAST | 3);
        x.run(1);
        Check.due("SET to the least c", x.guest(0, 3), LEAST_C);
        ControlProgram y = Scene.began(16, LEAST | 4);
        y.run(1);
        Check.due("MORE by the least c", y.guest(0, 3), LEAST_C);
    }

    private static void fieldsDoNotMix() {
        ControlProgram op = Scene.began(16, 8 | 1 << 6);
        op.store(0, 0, 5);
        op.run(1);
        Check.due("FETCH into register 0, by register 0", op.guest(0, 3), 5);
        ControlProgram r = Scene.began(16, 3 | 3 << 4);
        r.run(1);
        Check.due("SET of register 3 to 0", r.guest(0, 1), 17);
        ControlProgram a = Scene.began(16, 5 | 32 << 6);
        a.run(1);
        Check.due("GO to 32", a.guest(0, 1), 32);
        ControlProgram least = Scene.began(16, 5 | 1 << 6);
        least.run(1);
        Check.due("GO to 1", least.guest(0, 1), 1);
        ControlProgram c = Scene.began(16, 3 | 63 << 6 | 1 << 12);
        c.run(1);
        Check.due("SET of register 0 to 1", c.guest(0, 3), 1);
    }

    private static void storeOverItself() {
        ControlProgram x = after(Code.set(2, 9), Code.store(1, 16));
        Check.due("word", x.word(0, 16), Code.set(2, 9));
        Check.due("PSW", x.guest(0, 1), 17);
        Check.due("not carried out", x.guest(0, 5), 0);
    }

    private static void storeOverTheNext() {
        ControlProgram x = after(Code.set(2, 9), Code.store(1, 17));
        x.run(1);
        Check.due("the new one is carried out", x.guest(0, 5), 9);
    }

    private static void sum(int r, int word, int due) {
        ControlProgram x = Scene.began(16, Code.load(1, 40), Code.add(1, 41));
        x.store(0, 40, r);
        x.store(0, 41, word);
        x.run(2);
        Check.due(r + " + " + word, x.guest(0, 4), due);
    }

    private static void addLeavesTheWord() {
        ControlProgram x = after(7, Code.add(1, 40));
        Check.due("register", x.guest(0, 4), 14);
        Check.due("word", x.word(0, 40), 7);
    }

    private static void more(int r, int c, int due) {
        Check.due(r + " more " + c, after(r, Code.more(1, c)).guest(0, 4), due);
    }

    private static void goesOnAt(int r, int word, int due) {
        Check.due("PSW", after(r, word).guest(0, 1), due);
    }

    private static void goKeepsTheBits() {
        int bits = Code.PROBLEM + Code.ENABLED;
        ControlProgram x = Scene.began(16 + bits, Code.go(63));
        x.run(1);
        Check.due("PSW", x.guest(0, 1), 63 + bits);
        ControlProgram zero = Scene.began(16 + bits, Code.zero(0, 0));
        zero.run(1);
        Check.due("PSW", zero.guest(0, 1), bits);
    }

    /** Register due holds 50, the others addresses with other words. */
    private static ControlProgram addresses(int due, int word) {
        ControlProgram x = new ControlProgram();
        for (int r = 0; r < 4; r++) {
            x.store(0, 16 + r, Code.set(r, r == due ? 50 : 52 + r));
            x.store(0, 52 + r, 100 + r);
        }
        x.store(0, 50, 90);
        x.store(0, 20, word);
        x.start(0, 16);
        x.run(5);
        return x;
    }

    private static void fetches(int c, int register) {
        int r = (register + 1) % 4;
        Check.due("FETCH", addresses(register, Code.fetch(r, c)).guest(0, 3 + r), 90);
    }

    private static void places(int c, int register) {
        int r = (register + 1) % 4;
        Check.due("PLACE", addresses(register, Code.place(r, c)).word(0, 50), 52 + r);
    }

    private static void fetchByItself() {
        ControlProgram x = addresses(2, Code.fetch(2, 2));
        Check.due("FETCH", x.guest(0, 5), 90);
    }

    private static void placeByItself() {
        ControlProgram x = addresses(2, Code.place(2, 2));
        Check.due("PLACE", x.word(0, 50), 50);
    }

    private static void calls(int c, int code, int address) {
        ControlProgram x = Scene.began(16, Code.call(c, address));
        x.store(0, 1, -7);
        x.store(0, 2, -7);
        x.store(0, 3, 40);
        x.run(1);
        Check.kept(x, 0, 17, code, address);
        Check.due("PSW", x.guest(0, 1), 40);
        Check.due("interrupts", x.guest(0, 10), 1);
    }

    private static void callDoesNotAccess() {
        ControlProgram x = Scene.mapped(32, 5, 0, Code.call(3, 44));
        x.run(1);
        Check.kept(x, 0, Scene.mappedPsw(5) + 1, 3, 44);
        Check.due("code of PROGRAM", x.word(0, 5), 0);
    }

    private static void callWithProblem() {
        ControlProgram x = Scene.began(16 + Code.PROBLEM, Code.call(3, 44));
        x.run(1);
        Check.kept(x, 0, 17 + Code.PROBLEM, 3, 44);
        Check.due("PSW", x.guest(0, 1), 0);
    }

    private static void waitAlone() {
        ControlProgram x = Scene.began(16, Code.waits());
        Check.due("run(100)", x.run(100), 1);
        Check.due("state", x.guest(0, 0), ControlProgram.WAITING);
    }

    private static void waitNotEnabled() {
        ControlProgram x = Scene.began(16, Code.waits());
        x.post(0, 1);
        Check.due("run(100)", x.run(100), 1);
        Check.due("state", x.guest(0, 0), ControlProgram.WAITING);
        Check.due("pending", x.guest(0, 7), 1);
    }

    private static void waitEnabled() {
        ControlProgram x = Scene.began(16 + Code.ENABLED, Code.waits());
        x.store(0, 11, 16 + Code.ENABLED);
        x.post(0, 1);
        x.run(1);
        Check.due("state", x.guest(0, 0), ControlProgram.RUNNING);
        x.run(1);
        Check.due("state", x.guest(0, 0), ControlProgram.WAITING);
    }

    private static void isNoInstruction(int word, int psw) {
        ControlProgram x = Scene.began(psw, word);
        x.store(0, 7, 40);
        x.run(1);
        Check.kept(x, 1, psw, 1, psw & 63);
        Check.due("PSW", x.guest(0, 1), 40);
        Check.due("interrupts", x.guest(0, 10), 1);
    }

    private static ControlProgram problem(int at, int word) {
        ControlProgram x = Scene.began(at - 1 + Code.PROBLEM, Code.set(1, 9), word);
        x.store(0, 7, 33);
        x.run(2);
        return x;
    }

    private static void isRefused(int at, int word) {
        ControlProgram x = problem(at, word);
        Check.kept(x, 1, at + Code.PROBLEM, 2, at);
        Check.due("PSW", x.guest(0, 1), 33);
        Check.due("TABLE", x.guest(0, 2), 0);
        Check.due("told", x.told(0), -1);
        Check.due("state", x.guest(0, 0), ControlProgram.RUNNING);
        Check.due("frame of PSW's word", x.frame(0, 5), -1);
    }

    private static void plainOnesAreNotRefused() {
        for (int op = 0; op <= 9; op++) {
            ControlProgram x = problem(20, Code.word(op, 0, 40, 0));
            Check.due("interrupts of op " + op, x.guest(0, 10), 0);
        }
    }

    private static void supervisorIsNotRefused() {
        for (int op = 11; op <= 14; op++) {
            ControlProgram x = after(0, Code.word(op, 1, 40, 0));
            Check.due("interrupts of op " + op, x.guest(0, 10), 0);
        }
    }

    private static void refusedBeforeAccess() {
        ControlProgram x = Scene.began(24 + Code.MAPPED + Code.PROBLEM);
        x.store(0, 3, Code.entry(3, false));
        x.store(0, 24, Code.psw(40));
        x.run(1);
        Check.kept(x, 1, 24 + Code.MAPPED + Code.PROBLEM, 2, 24);
    }
}
