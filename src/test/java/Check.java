/** Counts and prints the answers that are not the ones that are due. */
final class Check {
    private static int wrong = 0;

    private Check() {
    }

    static void due(String call, long got, long want) {
        if (got != want) {
            wrong++;
            System.out.println(call + " answered " + got + ", due is " + want);
        }
    }

    static void due(String call, boolean got, boolean want) {
        if (got != want) {
            wrong++;
            System.out.println(call + " answered " + got + ", due is " + want);
        }
    }

    static void due(String call, String got, String want) {
        if (!got.equals(want)) {
            wrong++;
            System.out.println(call + " answered\n" + got + "\ndue is\n" + want);
        }
    }

    /** Guest 0's words of interrupt i: the PSW, the code and the address that it kept. */
    static void kept(ControlProgram x, int i, int psw, int code, int address) {
        due("PSW kept by interrupt " + i, x.word(0, 4 * i), psw);
        due("code kept by interrupt " + i, x.word(0, 4 * i + 1), code);
        due("address kept by interrupt " + i, x.word(0, 4 * i + 2), address);
    }

    static void turn(ControlProgram x, int g, int left) {
        due("turn(false)", x.turn(false), g);
        due("turn(true)", x.turn(true), left);
    }

    static int wrong() {
        return wrong;
    }

    static void end() {
        if (wrong != 0) {
            System.out.println(wrong + " answers are not as due");
            System.exit(1);
        }
    }
}
