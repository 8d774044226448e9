/** Terms: access. */
final class EdgeAccessTest {
    private static final int TABLE = 32;

    public static void main(String[] args) {
        Edge.of(Sentence.ACCESS)
            .at("not MAPPED, the first and the last address", EdgeAccessTest::firstAndLastNotMapped)
            .at("not MAPPED, and a table that would refuse", EdgeAccessTest::notMappedLooksAtNoTable)
            .at("the address 64", () -> lowestSixBits(64, 0))
            .at("the address 127", () -> lowestSixBits(127, 63))
            .at("the address -1", () -> lowestSixBits(-1, 63))
            .at("the address -64", () -> lowestSixBits(-64, 0))
            .at("the least address", () -> lowestSixBits(Integer.MIN_VALUE, 0))
            .at("the greatest address", () -> lowestSixBits(Integer.MAX_VALUE, 63));
        Edge.of(Sentence.ENTRY)
            .at("the first and the last page", EdgeAccessTest::firstAndLastPage)
            .at("the last address of a page and the first of the next", EdgeAccessTest::whereTheEntryChanges)
            .at("a table that just fits below 64", () -> entryIsAt(56, 7, 63))
            .at("a table that is one too high to fit", () -> entryIsAt(57, 7, 0))
            .at("the last table address, the first page", () -> entryIsAt(63, 0, 63))
            .at("the last table address, the second page", () -> entryIsAt(63, 1, 0))
            .at("the last table address, the last page", () -> entryIsAt(63, 7, 6))
            .at("reading an entry in a page that is in no frame", EdgeAccessTest::readingAnEntryBringsNothingIn)
            .at("reading an entry in the page used longest ago", EdgeAccessTest::readingAnEntryKeepsNothingIn)
            .at("all bits of the entry 0", () -> isNotThere(0))
            .at("only the lowest bit of the entry 0", () -> isNotThere(-2))
            .at("not there and not for writing: it is PROGRAM 4", () -> isNotThere(2))
            .at("only the lowest bit of the entry 1", () -> isThere(1))
            .at("not there: the instruction at the last address", EdgeAccessTest::lastInstructionIsNotThere)
            .at("not there: the first and the last address", EdgeAccessTest::firstAndLastNotThere)
            .at("not there: an address above 63", () -> notThereByRegister(64 + 41, 41))
            .at("not there: an address below 0", () -> notThereByRegister(-1, 63));
        Edge.of(Sentence.NOT_FOR_WRITING)
            .at("writing, the next bit 1", () -> writing(3, 5))
            .at("writing, the next bit 0 and no other", () -> writing(1, 0))
            .at("writing, the next bit 0 and all others 1", () -> writing(-3, 0))
            .at("writing, all bits 1", () -> writing(-1, 5))
            .at("reading, the next bit 1: LOAD, ADD, FETCH, PSW", EdgeAccessTest::readingWhatIsNotForWriting)
            .at("an instruction where nothing can be written", EdgeAccessTest::instructionsNotForWriting)
            .at("an address above 63", () -> notForWritingByRegister(64 + 40, 40))
            .at("an address below 0", () -> notForWritingByRegister(40 - 64, 40));
        Edge.of(Sentence.MAPPED_WORD)
            .at("the first and the last p, the first and the last word", EdgeAccessTest::firstAndLastPlace)
            .at("p of each number", EdgeAccessTest::eachP)
            .at("bits above p", EdgeAccessTest::bitsAboveP)
            .at("a page that leads to itself, and two that lead to one", EdgeAccessTest::pagesThatMeet)
            .at("a write to the entry that leads to it", EdgeAccessTest::anEntryWritesOverItself);
        Edge.of(Sentence.ACCESS_USES)
            .at("the page led to, not the page of the address", EdgeAccessTest::thePageLedToIsUsed)
            .at("a refused access uses nothing", EdgeAccessTest::refusedUsesNothing);
        Check.end();
    }

    private static void firstAndLastNotMapped() {
        for (int a : new int[] {0, 63}) {
            ControlProgram x = Scene.began(16, Code.load(1, a), Code.more(1, 1), Code.store(1, a));
            x.store(0, a, 500);
            x.run(1);
            Check.due("LOAD", x.guest(0, 4), 500);
            x.run(2);
            Check.due("STORE", x.word(0, a), 501);
            Check.due("leads", x.leads(0, a, true), a);
        }
    }

    private static void notMappedLooksAtNoTable() {
        ControlProgram x = Scene.began(16, Code.set(0, 9), Code.store(0, 40), Code.load(1, 41));
        x.store(0, 41, 4);
        for (int a = 0; a < 8; a++) {
            x.store(0, a, a % 2 == 0 ? 0 : 3);
        }
        x.run(3);
        Check.due("STORE", x.word(0, 40), 9);
        Check.due("LOAD", x.guest(0, 4), 4);
        Check.due("interrupts", x.guest(0, 10), 0);
    }

    private static void lowestSixBits(int address, int due) {
        ControlProgram x = Scene.began(16, Code.load(1, 40), Code.fetch(2, 1), Code.more(2, 1), Code.place(2, 1));
        x.store(0, 40, address);
        x.store(0, due, 30);
        x.run(2);
        Check.due("FETCH", x.guest(0, 5), 30);
        x.run(2);
        Check.due("PLACE", x.word(0, due), 31);
        Check.due("leads", x.leads(0, address, false), due);
    }

    /** Guest 0 does a LOAD by the table, whose entry for the page must be the word given. */
    private static void entryIsAt(int table, int page, int word) {
        int a = 8 * page + 5;
        ControlProgram x = Scene.mapped(table, page, Code.entry(5, false), Code.load(1, a));
        x.store(0, 45, 900);
        Check.due("the entry", x.word(0, word), Code.entry(5, false));
        Check.due("leads", x.leads(0, a, false), 45);
        x.run(1);
        Check.due("LOAD", x.guest(0, 4), 900);
    }

    private static void firstAndLastPage() {
        entryIsAt(TABLE, 0, TABLE);
        entryIsAt(TABLE, 7, TABLE + 7);
    }

    private static void whereTheEntryChanges() {
        ControlProgram x = Scene.mapped(TABLE, 3, Code.entry(5, false), Code.go(0));
        Check.due("leads of 23", x.leads(0, 23, false), -4);
        Check.due("leads of 24", x.leads(0, 24, false), 40);
        Check.due("leads of 31", x.leads(0, 31, false), 47);
        Check.due("leads of 32", x.leads(0, 32, false), -4);
        Check.due("leads of 63", x.leads(0, 63, false), -4);
        Check.due("leads of 0", x.leads(0, 0, false), -4);
    }

    private static void readingAnEntryBringsNothingIn() {
        ControlProgram there = Scene.mapped(TABLE, 3, Code.entry(5, false), Code.load(1, 24));
        there.run(1);
        Check.due("frames", Look.pages(there), "0.2 0.3 0.5 - - -");
        ControlProgram notThere = Scene.mapped(TABLE, 3, 0, Code.load(1, 24));
        notThere.run(1);
        Check.due("frames", Look.pages(notThere), "0.2 0.3 0.0 - - -");
    }

    private static void readingAnEntryKeepsNothingIn() {
        ControlProgram x = new ControlProgram();
        Scene.touch(x, 0, 0);
        for (int p = 1; p < 6; p++) {
            Scene.touch(x, 1, p);
        }
        // TABLE is 0, so the entries are in page 0, which was used longest ago.
        x.store(0, 3, Code.entry(5, false));
        x.store(0, 40, Code.load(1, 25));
        x.start(0, 24 + Code.MAPPED);
        x.run(1);
        Check.due("frames", Look.pages(x), "0.5 1.1 1.2 1.3 1.4 1.5");
    }

    private static void programInterrupt(ControlProgram x, int page, int code, int at) {
        Check.kept(x, 1, Scene.mappedPsw(page), code, at);
        Check.due("PSW", x.guest(0, 1), 48);
        Check.due("interrupts", x.guest(0, 10), 1);
    }

    private static void isNotThere(int entry) {
        for (int word : new int[] {Code.load(1, 42), Code.add(1, 42), Code.store(1, 42)}) {
            ControlProgram x = Scene.mapped(TABLE, 5, entry, word);
            Check.due("leads for reading", x.leads(0, 42, false), -4);
            Check.due("leads for writing", x.leads(0, 42, true), -4);
            x.run(1);
            programInterrupt(x, 5, 4, 42);
        }
    }

    private static void isThere(int entry) {
        ControlProgram x = Scene.mapped(TABLE, 5, entry, Code.load(1, 42));
        x.store(0, 2, 66);
        Check.due("leads for reading", x.leads(0, 42, false), 2);
        Check.due("leads for writing", x.leads(0, 42, true), 2);
        x.run(1);
        Check.due("LOAD", x.guest(0, 4), 66);
        Check.due("interrupts", x.guest(0, 10), 0);
    }

    private static void lastInstructionIsNotThere() {
        ControlProgram x = Scene.began(63 + Code.MAPPED);
        x.store(0, 7, 2);
        x.run(1);
        Check.kept(x, 1, 63 + Code.MAPPED, 4, 63);
        Check.due("PSW", x.guest(0, 1), 2);
    }

    private static void firstAndLastNotThere() {
        ControlProgram first = Scene.mapped(TABLE, 0, 0, Code.load(1, 0));
        first.run(1);
        programInterrupt(first, 0, 4, 0);
        ControlProgram last = Scene.mapped(TABLE, 7, 0, Code.load(1, 63));
        last.run(1);
        programInterrupt(last, 7, 4, 63);
    }

    /** A FETCH or PLACE by register 2, which SET, carried out before in the same page, has made the address. */
    private static ControlProgram byRegister(int page, int entry, int address, int word) {
        ControlProgram x = Scene.mapped(TABLE, page, entry, Code.set(2, address));
        x.store(0, 25, word);
        x.run(2);
        Check.due("the register stays", x.guest(0, 5), address);
        return x;
    }

    private static void notThereByRegister(int address, int due) {
        for (int word : new int[] {Code.fetch(1, 2), Code.place(1, 2)}) {
            ControlProgram x = byRegister(5, 0, address, word);
            Check.kept(x, 1, Scene.mappedPsw(5) + 1, 4, due);
        }
    }

    private static void notForWritingByRegister(int address, int due) {
        ControlProgram x = byRegister(5, Code.entry(6, true), address, Code.place(1, 2));
        Check.kept(x, 1, Scene.mappedPsw(5) + 1, 5, due);
    }

    /** STORE and PLACE to address 47 with this entry; code is that of the PROGRAM, 0 if there is none. */
    private static void writing(int entry, int code) {
        int place = 8 * (entry >> 2 & 7) + 7;
        int[] words = {Code.store(0, 47), Code.place(0, 1)};
        for (int word : words) {
            ControlProgram x = Scene.mapped(TABLE, 5, entry, Code.set(1, 47));
            x.store(0, 25, word);
            x.store(0, place, 1234);
            Check.due("leads for writing", x.leads(0, 47, true), code == 0 ? place : -code);
            x.run(2);
            Check.due("interrupts", x.guest(0, 10), code == 0 ? 0 : 1);
            if (code == 0) {
                Check.due("written", x.word(0, place), TABLE);
            } else {
                Check.kept(x, 1, Scene.mappedPsw(5) + 1, code, 47);
                Check.due("not written", x.word(0, place), 1234);
            }
        }
    }

    private static void readingWhatIsNotForWriting() {
        int entry = Code.entry(6, true);
        ControlProgram load = Scene.mapped(TABLE, 5, entry, Code.load(1, 40));
        load.store(0, 48, 11);
        Check.due("leads for reading", load.leads(0, 40, false), 48);
        load.run(1);
        Check.due("LOAD", load.guest(0, 4), 11);
        ControlProgram add = Scene.mapped(TABLE, 5, entry, Code.add(0, 40));
        add.store(0, 48, 11);
        add.run(1);
        Check.due("ADD", add.guest(0, 3), TABLE + 11);
        ControlProgram fetch = Scene.mapped(TABLE, 5, entry, Code.fetch(1, 0));
        // Register 0 holds TABLE, 32, so it is page 4 that is fetched from.
        fetch.store(0, TABLE + 4, entry);
        fetch.store(0, 48, 11);
        fetch.run(1);
        Check.due("FETCH", fetch.guest(0, 4), 11);
        ControlProgram psw = Scene.mapped(TABLE, 5, entry, Code.psw(40));
        psw.store(0, 48, 11);
        psw.run(1);
        Check.due("PSW", psw.guest(0, 1), 11);
    }

    private static void instructionsNotForWriting() {
        ControlProgram x = Scene.mapped(TABLE, 1, 0, Code.set(1, 21));
        x.store(0, TABLE + 2, Code.entry(3, true));
        x.run(1);
        Check.due("SET", x.guest(0, 4), 21);
        Check.due("interrupts", x.guest(0, 10), 0);
    }

    private static void firstAndLastPlace() {
        ControlProgram x = Scene.mapped(TABLE, 5, Code.entry(0, false), Code.store(0, 40));
        Check.due("leads of 40", x.leads(0, 40, true), 0);
        Check.due("leads of 47", x.leads(0, 47, true), 7);
        x.run(1);
        Check.due("the first word", x.word(0, 0), TABLE);
        ControlProgram y = Scene.mapped(TABLE, 5, Code.entry(7, false), Code.store(0, 47));
        Check.due("leads of 40", y.leads(0, 40, true), 56);
        Check.due("leads of 47", y.leads(0, 47, true), 63);
        y.run(1);
        Check.due("the last word", y.word(0, 63), TABLE);
    }

    private static void eachP() {
        for (int p = 0; p < 8; p++) {
            ControlProgram x = Scene.mapped(TABLE, 5, Code.entry(p, false), Code.load(1, 46));
            x.store(0, 8 * p + 6, 3000 + p);
            Check.due("leads", x.leads(0, 46, false), 8 * p + 6);
            x.run(1);
            Check.due("LOAD", x.guest(0, 4), 3000 + p);
        }
    }

    private static void bitsAboveP() {
        for (int above : new int[] {32, 64, -32, Integer.MIN_VALUE, Integer.MAX_VALUE - 31}) {
            for (int p : new int[] {0, 6}) {
                ControlProgram x = Scene.mapped(TABLE, 5, Code.entry(p, false) | above, Code.load(1, 46));
                x.store(0, 8 * p + 6, 55);
                Check.due("leads", x.leads(0, 46, true), 8 * p + 6);
                x.run(1);
                Check.due("LOAD", x.guest(0, 4), 55);
            }
        }
    }

    private static void pagesThatMeet() {
        ControlProgram x = Scene.mapped(TABLE, 5, Code.entry(5, false), Code.store(0, 41));
        x.store(0, TABLE + 6, Code.entry(5, false));
        x.store(0, 25, Code.load(3, 49));
        x.run(2);
        Check.due("the page that leads to itself", x.word(0, 41), TABLE);
        Check.due("the other that leads to it", x.guest(0, 6), TABLE);
    }

    private static void anEntryWritesOverItself() {
        // Page 5 leads to page 4, where the table is: the word at 45 is the entry for page 5.
        ControlProgram x = Scene.mapped(TABLE, 5, Code.entry(4, false), Code.store(1, 45));
        x.run(1);
        Check.due("interrupts", x.guest(0, 10), 0);
        Check.due("the entry", x.word(0, TABLE + 5), 0);
        Check.due("leads", x.leads(0, 45, false), -4);
    }

    private static void thePageLedToIsUsed() {
        ControlProgram x = Scene.mapped(TABLE, 5, Code.entry(6, false), Code.load(1, 40));
        x.run(1);
        Check.due("frames", Look.pages(x), "0.2 0.3 0.6 - - -");
        ControlProgram y = Scene.mapped(TABLE, 5, Code.entry(6, false), Code.store(1, 40));
        y.run(1);
        Check.due("frames", Look.pages(y), "0.2 0.3 0.6 - - -");
    }

    private static void refusedUsesNothing() {
        ControlProgram x = Scene.mapped(TABLE, 5, Code.entry(6, true), Code.store(1, 40));
        x.run(1);
        Check.due("frames", Look.pages(x), "0.2 0.3 0.0 - - -");
        ControlProgram y = Scene.mapped(TABLE, 5, Code.entry(6, false) - 1, Code.load(1, 40));
        y.run(1);
        Check.due("frames", Look.pages(y), "0.2 0.3 0.0 - - -");
        ControlProgram z = Scene.began(40 + Code.MAPPED);
        z.run(1);
        Check.due("frames", Look.pages(z), "0.0 - - - - -");
    }
}
