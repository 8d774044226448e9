import java.util.Map;
import java.util.TreeMap;

/**
 * All that can be seen of an object, as text. It takes 259 calls, so an object that is used for at most 512 can be
 * looked at once: to see that a call changes nothing, two objects are made alike and one of them gets the call.
 */
final class Look {
    private Look() {
    }

    static String at(ControlProgram x) {
        StringBuilder seen = new StringBuilder();
        for (int g = 0; g < 3; g++) {
            seen.append(image(x, g)).append(counts(x, g)).append(frames(x, g));
        }
        seen.append("told");
        for (int k = 0; k < 8; k++) {
            seen.append(' ').append(x.told(k));
        }
        return seen.append("\nturn ").append(x.turn(false)).append(' ').append(x.turn(true)).append('\n').toString();
    }

    /** What copy and keep take over: all of a guest but its counts and frames. */
    static String image(ControlProgram x, int g) {
        StringBuilder seen = new StringBuilder("guest");
        for (int what = 0; what <= 7; what++) {
            seen.append(' ').append(x.guest(g, what));
        }
        seen.append("\nstorage");
        for (int a = 0; a < 64; a++) {
            seen.append(' ').append(x.word(g, a));
        }
        return seen.append('\n').toString();
    }

    static String counts(ControlProgram x, int g) {
        return "counts " + x.guest(g, 8) + " " + x.guest(g, 9) + " " + x.guest(g, 10) + "\n";
    }

    static String frames(ControlProgram x, int g) {
        StringBuilder seen = new StringBuilder("frames");
        for (int p = 0; p < 8; p++) {
            seen.append(' ').append(x.frame(g, p));
        }
        return seen.append('\n').toString();
    }

    /** What frames 0 to 5 hold, as guest.page each, or - for nothing; a frame with two pages tells both. */
    static String pages(ControlProgram x) {
        String[] held = {"-", "-", "-", "-", "-", "-"};
        for (int g = 0; g < 3; g++) {
            for (int p = 0; p < 8; p++) {
                int f = x.frame(g, p);
                if (f != -1) {
                    held[f] = (held[f].equals("-") ? "" : held[f] + "+") + g + "." + p;
                }
            }
        }
        return String.join(" ", held);
    }

    /** What guests are and what was told, a name to each thing, so that a test can tell which of them change. */
    static Map<String, Long> things(ControlProgram x) {
        String[] names = {"state", "PSW", "TABLE", "register 0", "register 1", "register 2", "register 3", "code"};
        Map<String, Long> things = new TreeMap<>();
        for (int g = 0; g < 3; g++) {
            for (int what = 0; what < names.length; what++) {
                things.put(g + " " + names[what], (long) x.guest(g, what));
            }
            for (int a = 0; a < 64; a++) {
                things.put(g + " word " + a, (long) x.word(g, a));
            }
        }
        for (int k = 0; k < 8; k++) {
            things.put("told " + k, x.told(k));
        }
        return things;
    }
}
