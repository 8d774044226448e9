final class Promise08KeepTest {
    public static void main(String[] args) {
        theGuestItselfStays();
        whatItIsThenIsKept();
        theSlotsAreApartAndTheLastOneCounts();
        eachGuestCanBeKept();
        wrongOnesKeepNothing();
        Check.end();
    }

    private static void theGuestItselfStays() {
        ControlProgram x = Scene.busy();
        Check.due("keep", x.keep(0, 0), true);
        Check.due("keep", x.keep(1, 1), true);
        Check.due("keep", x.keep(2, 1), true);
        Check.due("looks", Look.at(x), Look.at(Scene.busy()));
    }

    private static void whatItIsThenIsKept() {
        ControlProgram x = Scene.busy();
        ControlProgram as = Scene.busy();
        x.keep(1, 0);
        x.store(1, 40, 1);
        x.start(1, 500);
        x.store(1, 0, 11);
        x.run(7);
        x.back(1, 0);
        Check.due("kept", Look.image(x, 1), Look.image(as, 1));
    }

    private static void theSlotsAreApartAndTheLastOneCounts() {
        ControlProgram x = new ControlProgram();
        x.store(0, 5, 1);
        x.keep(0, 0);
        x.store(0, 5, 2);
        x.keep(0, 1);
        x.store(0, 5, 3);
        x.back(0, 0);
        Check.due("slot 0", x.word(0, 5), 1);
        x.back(0, 1);
        Check.due("slot 1", x.word(0, 5), 2);
        x.keep(0, 0);
        x.store(0, 5, 4);
        x.back(0, 0);
        Check.due("slot 0 kept again", x.word(0, 5), 2);
    }

    private static void eachGuestCanBeKept() {
        for (int g = 0; g < 3; g++) {
            ControlProgram x = Scene.busy();
            ControlProgram as = Scene.busy();
            Check.due("keep(" + g + ", 1)", x.keep(g, 1), true);
            x.start(g, 3);
            x.store(g, 63, 1);
            x.back(g, 1);
            Check.due("kept " + g, Look.image(x, g), Look.image(as, g));
        }
    }

    private static void wrongOnesKeepNothing() {
        ControlProgram x = Scene.busy();
        for (int wrong : new int[] {-1, 3, 4, Integer.MIN_VALUE, Integer.MAX_VALUE}) {
            Check.due("keep(" + wrong + ", 0)", x.keep(wrong, 0), false);
            Check.due("keep(0, " + wrong + ")", x.keep(0, wrong), false);
        }
        Check.due("keep(0, 2)", x.keep(0, 2), false);
        Check.due("nothing is kept", x.back(1, 0), false);
        Check.due("nothing is kept", x.back(1, 1), false);
        Check.due("looks", Look.at(x), Look.at(Scene.busy()));
    }
}
