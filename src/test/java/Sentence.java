/**
 * The sentences of the document in their order, the public face and what is not promised left out. SentencesTest looks
 * that they are the document's, that none is missing, and that each has a test.
 */
enum Sentence {
    WHAT_IT_IS("A control program that lets guests run, each as if on a machine of its own: guests have supervisors and"
        + " programs, tables that map addresses, interrupts; their storage is kept in a few frames, what was not used"
        + " for longest goes out; guests can be copied, kept and taken back."),
    CALLS("An object is used for at most 512 calls after it has been made; what later calls answer is free."),

    WORDS("WORDS are ints."),
    GUESTS("GUESTS 0..2 have a STORAGE of 8 PAGES of 8 words (addresses 0..63), 4 registers, a PSW - an address 0..63"
        + " and the bits PROBLEM, MAPPED, ENABLED -, a TABLE address 0..63, perhaps one pending external code, a state:"
        + " STOPPED, RUNNING, WAITING."),
    PSW_AS_A_WORD("As a word a PSW is the address plus 64 for PROBLEM, 128 for MAPPED, 256 for ENABLED; other bits of a"
        + " word loaded as a PSW are not looked at."),

    FRAMES("FRAMES 0..5 hold at most one page of some guest each."),
    PAGING("Each word of a guest's storage that is USED brings its page into a frame if it is in none (a PAGING): the"
        + " least one that is free, else the one whose page was USED longest ago."),
    PAGES_HOLD("(Where a page is changes nothing of what it holds.)"),

    ACCESS("ACCESS to address a of a guest (its lowest 6 bits): not MAPPED it is the word a of the storage."),
    ENTRY("MAPPED: the ENTRY for it is the word of the storage at TABLE + a / 8 (lowest 6 bits; reading it is no use):"
        + " if its lowest bit is 0: PROGRAM 4 at a."),
    NOT_FOR_WRITING("For writing, if its next bit is 1: PROGRAM 5 at a."),
    MAPPED_WORD("Else it is the word 8 p + a % 8, p the next three bits."),
    ACCESS_USES("This word is USED."),

    EXTERNAL_STEP("A STEP of a RUNNING guest (or a WAITING one that takes an interrupt): if it is ENABLED and an"
        + " external code is pending: the INTERRUPT 2 with this code and 0, nothing is pending then, and that is the"
        + " step."),
    INSTRUCTION_STEP("Else the word at the PSW's address is accessed, w, and carried out; the PSW's address is 1 more"
        + " (lowest 6 bits), unless said otherwise."),
    FIELDS("With op the lowest 4 bits of w, r the next 2, a the next 6, c w >> 12:"),
    LOAD("0 LOAD r becomes the word at a"),
    STORE("1 STORE the word at a becomes r"),
    ADD("2 ADD the word at a is added to r"),
    SET("3 SET r becomes c"),
    MORE("4 MORE c is added to r"),
    GO("5 GO on at a"),
    ZERO("6 ZERO on at a if r is 0"),
    BELOW("7 BELOW on at a if r is below 0"),
    FETCH("8 FETCH r becomes the word at the address in register c & 3"),
    PLACE("9 PLACE the word at that address becomes r"),
    CALL("10 CALL INTERRUPT 0 with code c & 255 and address a"),
    PSW("11 PSW the PSW becomes the word at a"),
    TABLE("12 TABLE TABLE becomes r (lowest 6 bits)"),
    TELL("13 TELL r is told"),
    WAIT("14 WAIT the guest is WAITING"),
    NO_INSTRUCTION("15 no instruction: PROGRAM 1 at the instruction's address"),
    PROBLEM("11 to 14, if PROBLEM: PROGRAM 2 at the instruction's address, nothing else is done."),

    PROGRAM("PROGRAM k at x (where nothing else of the step is done): INTERRUPT 1 with code k and x, the PSW's address"
        + " being still that of the instruction."),
    OTHER_ADDRESSES("In CALL it is the next one, in INTERRUPT 2 that of the instruction not yet carried out."),
    AFTER_WAIT("(After WAIT: the next one.)"),
    INTERRUPT("INTERRUPT i: the words 4 i, 4 i + 1, 4 i + 2 of the storage become the PSW, the code, the address (in"
        + " this order, each is USED), the PSW becomes the word 4 i + 3 (USED); a WAITING guest is RUNNING."),

    WHO_RUNS("WHO RUNS: one guest has the turn, at first with 4 steps left."),
    NEXT_TURN("Before each step: if it is not RUNNING or has none left, the next one by number (0 behind 2; the same"
        + " one last) that is RUNNING, or WAITING, ENABLED and with a pending code, has the turn with 4 steps left; if"
        + " there is none, no step is made and the turn stays."),
    TOLD_KEPT("Of what was told the last 8 are kept."),

    P01("All guests STOPPED, everything 0, no page in a frame; guest 0 has the turn."),
    P02("The word at address a of guest g's storage becomes w (no use)."),
    P02_FALSE("False if g or a is outside."),
    P03("That word (no use); 0 if g or a is outside."),
    P04("Guest g's PSW becomes this word, its registers and TABLE 0, nothing is pending, it is RUNNING."),
    P04_FALSE("False if g is outside."),
    P05("Guest g is STOPPED."),
    P05_FALSE("False if it is so or g is outside."),
    P06("A STOPPED guest is RUNNING, as it was."),
    P06_FALSE("False if it is not STOPPED or g is outside."),
    P07("Guest to becomes what guest from is: storage, registers, PSW, TABLE, pending code, state; its counts are 0,"
        + " and its pages are in no frames any more."),
    P07_FALSE("False if one is outside or both are the same."),
    P08("Keeps in slot 0 or 1 what guest g is: storage, registers, PSW, TABLE, pending code, state."),
    P08_FALSE("False if one is outside."),
    P09("Guest g becomes what was kept in the slot last (of whatever guest); its counts stay, and its pages are in no"
        + " frames any more."),
    P09_FALSE("False if nothing was kept there, or one is outside."),
    P10("An external code (0..255) is pending for guest g, in place of any other."),
    P10_FALSE("False if one is outside."),
    P11("Lets the guests make n steps (0..100) as long as one can; how many were made."),
    P11_BAD("BAD if n is outside."),
    P12("Of guest g, what 0 its state; 1 the PSW as a word; 2 TABLE; 3..6 registers 0..3; 7 the pending code, -1 if"
        + " none; 8 its PAGINGS, 9 its steps, 10 its interrupts since start (or the beginning)."),
    P12_OUTSIDE("0 if g or what is outside."),
    P13("The frame in which page p of guest g is; -1 if in none; BAD - 1 if one is outside."),
    P14("Which word address a of guest g leads to as things are for reading (writing false) or writing: 0..63, or -4 or"
        + " -5 (the negative PROGRAM code); BAD if g is outside."),
    P14_NO_USE("(No use.)"),
    P15("What was told k before the latest (k 0..7): 8589934592 times the guest plus the int plus 4294967296; -1 if"
        + " there is none."),
    P16("The guest that has the turn; with left true how many steps are left to it.");

    final String words;

    Sentence(String words) {
        this.words = words;
    }
}
