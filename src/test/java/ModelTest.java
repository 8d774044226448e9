import java.util.Random;

/** Random runs of at most 512 calls, the same ones each time, answered by the program and by the model. */
final class ModelTest {
    private static final int RUNS = 3000;
    private static final int CALLS = 512;

    private final Random random;
    private final ControlProgram program = new ControlProgram();
    private final Model model = new Model();
    private final StringBuilder calls = new StringBuilder();
    private boolean wrong = false;
    private int made = 0;

    private ModelTest(long seed) {
        random = new Random(seed);
    }

    public static void main(String[] args) {
        for (long seed = 0; seed < RUNS; seed++) {
            ModelTest run = new ModelTest(seed);
            run.go();
            if (run.wrong) {
                System.out.println("seed " + seed + ":\n" + run.calls);
                Check.due("a run like the model's", false, true);
                break;
            }
        }
        Check.end();
    }

    private void go() {
        for (int g = 0; g < 3; g++) {
            for (int a = 0; a < 64; a++) {
                if (random.nextInt(4) != 0) {
                    store(g, a, someWord(a));
                }
            }
            if (random.nextInt(3) != 0) {
                start(g, random.nextInt(512));
            }
        }
        while (made < CALLS && !wrong) {
            call();
        }
    }

    private int someWord(int a) {
        int kind = random.nextInt(20);
        if (a == 3 || a == 7 || a == 11) {
            return random.nextInt(512);
        }
        if (kind == 0) {
            return random.nextInt();
        }
        // Odd ones serve as table entries as well.
        if (kind < 5) {
            return random.nextInt(64) | 1;
        }
        int c = random.nextInt(3) == 0 ? random.nextInt(512) - 256 : random.nextInt(8) - 2;
        return random.nextInt(16) | random.nextInt(4) << 4 | random.nextInt(64) << 6 | c << 12;
    }

    private int someGuest() {
        return random.nextInt(40) == 0 ? random.nextInt(8) - 3 : random.nextInt(3);
    }

    private int someOf(int n) {
        if (random.nextInt(60) == 0) {
            return random.nextInt();
        }
        return random.nextInt(30) == 0 ? random.nextInt(2 * n) - n / 2 : random.nextInt(n);
    }

    private void call() {
        int kind = random.nextInt(100);
        if (kind < 4) {
            int a = someOf(64);
            store(someGuest(), a, someWord(a));
        } else if (kind < 6) {
            start(someGuest(), random.nextInt(10) == 0 ? random.nextInt() : random.nextInt(512));
        } else if (kind < 24) {
            int n = random.nextInt(3) == 0 ? someOf(101) : random.nextInt(7);
            same("run(" + n + ")", program.run(n), model.run(n));
        } else if (kind < 40) {
            change(kind);
        } else {
            ask(kind);
        }
    }

    private void change(int kind) {
        int g = someGuest();
        int other = someGuest();
        int slot = someOf(2);
        int code = someOf(256);
        if (kind < 26) {
            same("stop(" + g + ")", program.stop(g), model.stop(g));
        } else if (kind < 28) {
            same("resume(" + g + ")", program.resume(g), model.resume(g));
        } else if (kind < 30) {
            same("copy(" + g + ", " + other + ")", program.copy(g, other), model.copy(g, other));
        } else if (kind < 32) {
            same("keep(" + g + ", " + slot + ")", program.keep(g, slot), model.keep(g, slot));
        } else if (kind < 34) {
            same("back(" + g + ", " + slot + ")", program.back(g, slot), model.back(g, slot));
        } else {
            same("post(" + g + ", " + code + ")", program.post(g, code), model.post(g, code));
        }
    }

    private void ask(int kind) {
        int g = someGuest();
        int a = someOf(64);
        int what = someOf(11);
        int p = someOf(8);
        boolean flag = random.nextBoolean();
        if (kind < 50) {
            same("word(" + g + ", " + a + ")", program.word(g, a), model.word(g, a));
        } else if (kind < 70) {
            same("guest(" + g + ", " + what + ")", program.guest(g, what), model.guest(g, what));
        } else if (kind < 85) {
            same("frame(" + g + ", " + p + ")", program.frame(g, p), model.frame(g, p));
        } else if (kind < 90) {
            same("leads(" + g + ", " + a + ", " + flag + ")", program.leads(g, a, flag), model.leads(g, a, flag));
        } else if (kind < 95) {
            same("told(" + p + ")", program.told(p), model.told(p));
        } else {
            same("turn(" + flag + ")", program.turn(flag), model.turn(flag));
        }
    }

    private void store(int g, int a, int w) {
        same("store(" + g + ", " + a + ", " + w + ")", program.store(g, a, w), model.store(g, a, w));
    }

    private void start(int g, int psw) {
        same("start(" + g + ", " + psw + ")", program.start(g, psw), model.start(g, psw));
    }

    private void same(String call, boolean got, boolean want) {
        same(call, got ? 1 : 0, want ? 1 : 0);
    }

    private void same(String call, long got, long want) {
        made++;
        calls.append(call).append(" -> ").append(got);
        if (got != want) {
            wrong = true;
            calls.append(", the model's is ").append(want);
        }
        calls.append('\n');
    }
}
