/** Promises 12 to 16: guest, frame, leads, told, turn. */
final class EdgeQuestionsTest {
    private static final int LEAST = Integer.MIN_VALUE;
    private static final int GREATEST = Integer.MAX_VALUE;

    public static void main(String[] args) {
        guest();
        frame();
        leads();
        toldAndTurn();
        Check.end();
    }

    private static void guest() {
        Edge.of(Sentence.P12)
            .at("each what of the first guest", () -> each(0, 1, 28, 7, 5, 7, 0, 0, -1, 1, 4, 0))
            .at("each what of the second guest", () -> each(1, 2, 36, 0, -3, 0, 0, 0, 44, 2, 4, 0))
            .at("each what of the last guest", () -> each(2, 0, 16, 21, 21, 0, 0, 0, -1, 2, 3, 1))
            .at("3 and 6, the first and the last register", EdgeQuestionsTest::firstAndLastRegister)
            .at("7, the code 0 and none", EdgeQuestionsTest::codeNoughtAndNone)
            .at("8, 9, 10, never started", EdgeQuestionsTest::countsSinceTheBeginning)
            .at("8, 9, 10, started again", EdgeQuestionsTest::countsSinceStart)
            .at("8, 9, 10, stopped and resumed", EdgeQuestionsTest::countsThroughStop)
            .at("10, each kind of interrupt", EdgeQuestionsTest::eachInterruptCounts)
            .at("9, a step that is an interrupt", EdgeQuestionsTest::interruptsCountAsSteps);
        Edge.of(Sentence.P12_OUTSIDE)
            .at("g one too small", () -> noughtForEachWhat(-1))
            .at("g one too large", () -> noughtForEachWhat(3))
            .at("the least g", () -> noughtForEachWhat(LEAST))
            .at("the greatest g", () -> noughtForEachWhat(GREATEST))
            .at("what one too small", () -> noughtForEachGuest(-1))
            .at("what one too large", () -> noughtForEachGuest(11))
            .at("the least what", () -> noughtForEachGuest(LEAST))
            .at("the greatest what", () -> noughtForEachGuest(GREATEST))
            .at("both", () -> Check.due("guest(3, 11)", Scene.everything().guest(3, 11), 0));
    }

    private static void frame() {
        Edge.of(Sentence.P13)
            .at("the first frame", () -> Check.due("frame", Scene.fullFrames().frame(0, 1), 0))
            .at("the last frame", () -> Check.due("frame", Scene.fullFrames().frame(0, 6), 5))
            .at("the first page", () -> frameOf(0))
            .at("the last page", () -> frameOf(7))
            .at("in none: a new object", () -> Check.due("frame", new ControlProgram().frame(0, 0), -1))
            .at("in none: all frames hold others", () -> Check.due("frame", Scene.fullFrames().frame(0, 0), -1))
            .at("g one too small", () -> noFrame(-1, 1))
            .at("g one too large", () -> noFrame(3, 1))
            .at("the least g", () -> noFrame(LEAST, 1))
            .at("the greatest g", () -> noFrame(GREATEST, 1))
            .at("p one too small", () -> noFrame(0, -1))
            .at("p one too small for the second guest", () -> noFrame(1, -1))
            .at("p one too large", () -> noFrame(0, 8))
            .at("p one too large for the last guest", () -> noFrame(2, 8))
            .at("the least p", () -> noFrame(0, LEAST))
            .at("the greatest p", () -> noFrame(0, GREATEST))
            .at("both", () -> noFrame(3, 8))
            .at("BAD - 1 is not -1", () -> Check.due("BAD - 1", ControlProgram.BAD - 1, -2));
    }

    private static void leads() {
        Edge.of(Sentence.P14)
            .at("not MAPPED, the first and the last address", EdgeQuestionsTest::leadsToTheAddress)
            .at("a one too small", () -> leadsTo(-1, 63))
            .at("a one too large", () -> leadsTo(64, 0))
            .at("the least a", () -> leadsTo(LEAST, 0))
            .at("the greatest a", () -> leadsTo(GREATEST, 63))
            .at("MAPPED, a one too small or too large", EdgeQuestionsTest::mappedGoesRound)
            .at("MAPPED, the first and the last word", EdgeQuestionsTest::mappedFirstAndLast)
            .at("reading and writing what is not there", () -> mappedLeads(0, -4, -4))
            .at("writing what is not there, nor for writing", () -> mappedLeads(2, -4, -4))
            .at("reading and writing what is not for writing", () -> mappedLeads(3 | 4 << 2, 37, -5))
            .at("reading and writing what is for both", () -> mappedLeads(1 | 4 << 2, 37, 37))
            .at("the table goes round", EdgeQuestionsTest::tableGoesRound)
            .at("as things are: the entry, the PSW, the state change", EdgeQuestionsTest::asThingsAre)
            .at("g one too small", () -> noLead(-1))
            .at("g one too large", () -> noLead(3))
            .at("the least g", () -> noLead(LEAST))
            .at("the greatest g", () -> noLead(GREATEST));
        Edge.of(Sentence.P14_NO_USE)
            .at("no frame in use", EdgeQuestionsTest::leadsBringsNothingIn)
            .at("no frame free", EdgeQuestionsTest::leadsKeepsNothingIn)
            .at("it interrupts nothing", EdgeQuestionsTest::leadsInterruptsNothing);
    }

    private static void toldAndTurn() {
        Edge.of(Sentence.P15)
            .at("the least k, the latest", () -> Check.due("told(0)", tenTold().told(0), toldBy(1, 10)))
            .at("the greatest k", () -> Check.due("told(7)", tenTold().told(7), toldBy(1, 3)))
            .at("k one too small", () -> Check.due("told(-1)", tenTold().told(-1), -1))
            .at("k one too large", () -> Check.due("told(8)", tenTold().told(8), -1))
            .at("the least int as k", () -> Check.due("told", tenTold().told(LEAST), -1))
            .at("the greatest int as k", () -> Check.due("told", tenTold().told(GREATEST), -1))
            .at("none told", () -> Check.due("told(0)", new ControlProgram().told(0), -1))
            .at("fewer told than k", EdgeQuestionsTest::fewerTold)
            .at("the least int of the first guest", () -> tells(0, LEAST, 2147483648L))
            .at("the greatest int of the first guest", () -> tells(0, GREATEST, 6442450943L))
            .at("-1 of the first guest is not none", () -> tells(0, -1, 4294967295L))
            .at("the least int of the second guest", () -> tells(1, LEAST, 10737418240L))
            .at("the least int of the last guest", () -> tells(2, LEAST, 19327352832L))
            .at("the greatest int of the last guest", () -> tells(2, GREATEST, 23622320127L));
        Edge.of(Sentence.P16)
            .at("at first", () -> Check.turn(new ControlProgram(), 0, 4))
            .at("the last guest", EdgeQuestionsTest::turnOfTheLast)
            .at("the least that are left, 0", EdgeQuestionsTest::turnWithNoneLeft)
            .at("refused calls and questions leave it", EdgeQuestionsTest::questionsLeaveTheTurn);
    }

    private static void each(int g, int... due) {
        ControlProgram x = Scene.busy();
        for (int what = 0; what <= 10; what++) {
            Check.due("guest(" + g + ", " + what + ")", x.guest(g, what), due[what]);
        }
    }

    private static void firstAndLastRegister() {
        ControlProgram x = Scene.began(16, Code.load(0, 40), Code.load(3, 41));
        x.store(0, 40, LEAST);
        x.store(0, 41, GREATEST);
        x.run(2);
        Check.due("guest(0, 3)", x.guest(0, 3), LEAST);
        Check.due("guest(0, 4)", x.guest(0, 4), 0);
        Check.due("guest(0, 5)", x.guest(0, 5), 0);
        Check.due("guest(0, 6)", x.guest(0, 6), GREATEST);
    }

    private static void codeNoughtAndNone() {
        ControlProgram x = new ControlProgram();
        Check.due("none", x.guest(0, 7), -1);
        x.post(0, 0);
        Check.due("0", x.guest(0, 7), 0);
        x.start(0, 0);
        Check.due("none", x.guest(0, 7), -1);
    }

    private static void countsSinceTheBeginning() {
        ControlProgram x = new ControlProgram();
        x.store(0, 0, Code.call(0, 0));
        x.resume(0);
        x.run(1);
        Check.due("counts", Look.counts(x, 0), "counts 1 1 1\n");
    }

    private static void countsSinceStart() {
        ControlProgram x = Scene.began(16, Code.call(0, 0));
        x.run(1);
        Check.due("counts", Look.counts(x, 0), "counts 2 1 1\n");
        x.start(0, 16);
        Check.due("counts", Look.counts(x, 0), "counts 0 0 0\n");
        x.run(1);
        Check.due("counts, its pages being in frames", Look.counts(x, 0), "counts 0 1 1\n");
    }

    private static void countsThroughStop() {
        ControlProgram x = Scene.began(16, Code.call(0, 0));
        x.run(1);
        x.stop(0);
        x.resume(0);
        Check.due("counts", Look.counts(x, 0), "counts 2 1 1\n");
    }

    private static void eachInterruptCounts() {
        ControlProgram x = Scene.began(16, Code.call(0, 0));
        x.store(0, 3, 24);
        x.store(0, 24, Code.NO_INSTRUCTION);
        x.store(0, 7, 32 + Code.ENABLED);
        x.run(1);
        Check.due("interrupt 0", x.guest(0, 10), 1);
        x.run(1);
        Check.due("interrupt 1", x.guest(0, 10), 2);
        x.post(0, 1);
        x.run(1);
        Check.due("interrupt 2", x.guest(0, 10), 3);
    }

    private static void interruptsCountAsSteps() {
        ControlProgram notThere = Scene.began(16 + Code.MAPPED);
        notThere.run(1);
        Check.due("steps", notThere.guest(0, 9), 1);
        ControlProgram external = Scene.began(16 + Code.ENABLED);
        external.post(0, 1);
        external.run(1);
        Check.due("steps", external.guest(0, 9), 1);
    }

    private static void noughtForEachWhat(int g) {
        ControlProgram x = Scene.everything();
        for (int what = 0; what <= 10; what++) {
            Check.due("guest(" + g + ", " + what + ")", x.guest(g, what), 0);
        }
    }

    private static void noughtForEachGuest(int what) {
        ControlProgram x = Scene.everything();
        for (int g = 0; g < 3; g++) {
            Check.due("guest(" + g + ", " + what + ")", x.guest(g, what), 0);
        }
    }

    private static void frameOf(int p) {
        ControlProgram x = new ControlProgram();
        for (int g = 0; g < 3; g++) {
            Scene.touch(x, g, p);
            Check.due("frame(" + g + ", " + p + ")", x.frame(g, p), g);
            Check.due("frame of another page", x.frame(g, 7 - p), -1);
        }
    }

    private static void noFrame(int g, int p) {
        ControlProgram full = Scene.fullFrames();
        full.run(1);
        Check.due("frame(" + g + ", " + p + ")", full.frame(g, p), -2);
        ControlProgram empty = new ControlProgram();
        Check.due("frame(" + g + ", " + p + ")", empty.frame(g, p), -2);
    }

    private static void leadsToTheAddress() {
        ControlProgram x = new ControlProgram();
        for (int g = 0; g < 3; g++) {
            Check.due("leads(" + g + ", 0, false)", x.leads(g, 0, false), 0);
            Check.due("leads(" + g + ", 0, true)", x.leads(g, 0, true), 0);
            Check.due("leads(" + g + ", 63, false)", x.leads(g, 63, false), 63);
            Check.due("leads(" + g + ", 63, true)", x.leads(g, 63, true), 63);
        }
    }

    private static void leadsTo(int a, int due) {
        ControlProgram x = new ControlProgram();
        Check.due("leads(0, " + a + ", false)", x.leads(0, a, false), due);
        Check.due("leads(2, " + a + ", true)", x.leads(2, a, true), due);
    }

    private static void mappedGoesRound() {
        ControlProgram x = Scene.began(Code.MAPPED);
        x.store(0, 0, Code.entry(4, false));
        x.store(0, 7, Code.entry(5, false));
        Check.due("leads(0, -1, true)", x.leads(0, -1, true), 47);
        Check.due("leads(0, 64, true)", x.leads(0, 64, true), 32);
        Check.due("leads(0, least, true)", x.leads(0, LEAST, true), 32);
        Check.due("leads(0, greatest, true)", x.leads(0, GREATEST, true), 47);
    }

    private static void mappedFirstAndLast() {
        ControlProgram x = Scene.began(Code.MAPPED);
        x.store(0, 0, Code.entry(7, false));
        x.store(0, 7, Code.entry(0, false));
        Check.due("leads(0, 7, true)", x.leads(0, 7, true), 63);
        Check.due("leads(0, 56, true)", x.leads(0, 56, true), 0);
    }

    private static void mappedLeads(int entry, int reading, int writing) {
        for (int g = 0; g < 3; g++) {
            ControlProgram x = new ControlProgram();
            x.start(g, Code.MAPPED);
            x.store(g, 2, entry);
            Check.due("leads for reading", x.leads(g, 21, false), reading);
            Check.due("leads for writing", x.leads(g, 21, true), writing);
        }
    }

    private static void tableGoesRound() {
        ControlProgram x = Scene.mapped(60, 4, Code.entry(6, false), 0);
        Check.due("the entry", x.word(0, 0), Code.entry(6, false));
        Check.due("leads", x.leads(0, 33, true), 49);
    }

    private static void asThingsAre() {
        ControlProgram x = Scene.began(Code.MAPPED);
        Check.due("not there", x.leads(0, 5, false), -4);
        x.store(0, 0, Code.entry(4, true));
        Check.due("there", x.leads(0, 5, false), 37);
        x.stop(0);
        Check.due("STOPPED", x.leads(0, 5, true), -5);
        x.start(0, 0);
        Check.due("not MAPPED", x.leads(0, 5, true), 5);
    }

    private static void noLead(int g) {
        ControlProgram x = Scene.everything();
        Check.due("leads(" + g + ", 5, false)", x.leads(g, 5, false), ControlProgram.BAD);
        Check.due("leads(" + g + ", 5, true)", x.leads(g, 5, true), ControlProgram.BAD);
    }

    private static void leadsBringsNothingIn() {
        ControlProgram x = Scene.began(Code.MAPPED);
        x.store(0, 0, Code.entry(4, false));
        x.leads(0, 5, true);
        x.leads(0, 5, false);
        x.leads(1, 5, false);
        Check.due("frames", Look.pages(x), "- - - - - -");
        Check.due("PAGINGS", x.guest(0, 8), 0);
    }

    private static void leadsKeepsNothingIn() {
        ControlProgram x = Scene.fullFrames();
        x.leads(0, 8, false);
        x.leads(0, 8, true);
        x.run(1);
        Check.due("frames", Look.pages(x), "1.7 0.2 0.3 0.4 0.5 0.6");
    }

    private static void leadsInterruptsNothing() {
        ControlProgram x = Scene.began(24 + Code.MAPPED);
        x.store(0, 1, 3);
        Check.due("not there", x.leads(0, 5, false), -4);
        Check.due("not for writing", x.leads(0, 8, true), -5);
        Check.due("interrupts", x.guest(0, 10), 0);
        Check.due("PSW", x.guest(0, 1), 24 + Code.MAPPED);
        Check.due("code", x.word(0, 5), 0);
    }

    /** Guest 1 has told 1 to 10. */
    private static ControlProgram tenTold() {
        ControlProgram x = new ControlProgram();
        Scene.program(x, 1, 24, Code.more(0, 1), Code.tell(0), Code.go(24));
        x.start(1, 24);
        x.run(30);
        return x;
    }

    private static long toldBy(int g, int value) {
        return 8589934592L * g + value + 4294967296L;
    }

    private static void fewerTold() {
        ControlProgram x = Scene.began(16, Code.tell(0), Code.tell(0));
        x.run(1);
        Check.due("told(0)", x.told(0), toldBy(0, 0));
        Check.due("told(1)", x.told(1), -1);
        x.run(1);
        Check.due("told(1)", x.told(1), toldBy(0, 0));
        Check.due("told(2)", x.told(2), -1);
    }

    private static void tells(int g, int value, long due) {
        ControlProgram x = new ControlProgram();
        Scene.program(x, g, 16, Code.load(2, 40), Code.tell(2));
        x.store(g, 40, value);
        x.start(g, 16);
        x.run(2);
        Check.due("told(0)", x.told(0), due);
        Check.due("told(1)", x.told(1), -1);
    }

    private static void turnOfTheLast() {
        ControlProgram x = new ControlProgram();
        x.start(2, 24);
        x.run(1);
        Check.turn(x, 2, 3);
    }

    private static void turnWithNoneLeft() {
        ControlProgram x = new ControlProgram();
        x.start(2, 24);
        x.run(4);
        Check.turn(x, 2, 0);
    }

    private static void questionsLeaveTheTurn() {
        ControlProgram x = new ControlProgram();
        x.start(1, 24);
        x.run(2);
        x.run(101);
        x.run(0);
        x.stop(0);
        x.guest(1, 9);
        x.leads(1, 5, true);
        x.told(0);
        Check.turn(x, 1, 2);
    }
}
