/** Instructions and PSWs as words. */
final class Code {
    static final int PROBLEM = 64;
    static final int MAPPED = 128;
    static final int ENABLED = 256;
    static final int NO_INSTRUCTION = 15;

    private Code() {
    }

    static int word(int op, int r, int a, int c) {
        return op | r << 4 | a << 6 | c << 12;
    }

    static int load(int r, int a) {
        return word(0, r, a, 0);
    }

    static int store(int r, int a) {
        return word(1, r, a, 0);
    }

    static int add(int r, int a) {
        return word(2, r, a, 0);
    }

    static int set(int r, int c) {
        return word(3, r, 0, c);
    }

    static int more(int r, int c) {
        return word(4, r, 0, c);
    }

    static int go(int a) {
        return word(5, 0, a, 0);
    }

    static int zero(int r, int a) {
        return word(6, r, a, 0);
    }

    static int below(int r, int a) {
        return word(7, r, a, 0);
    }

    static int fetch(int r, int by) {
        return word(8, r, 0, by);
    }

    static int place(int r, int by) {
        return word(9, r, 0, by);
    }

    static int call(int code, int a) {
        return word(10, 0, a, code);
    }

    static int psw(int a) {
        return word(11, 0, a, 0);
    }

    static int table(int r) {
        return word(12, r, 0, 0);
    }

    static int tell(int r) {
        return word(13, r, 0, 0);
    }

    static int waits() {
        return word(14, 0, 0, 0);
    }

    /** A table's entry for page p; locked: not for writing. */
    static int entry(int p, boolean locked) {
        return 1 | (locked ? 2 : 0) | p << 2;
    }
}
