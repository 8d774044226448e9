import java.io.IOException;
import java.nio.file.Files;
import java.nio.file.Path;
import java.util.List;
import java.util.regex.Pattern;

/** The examples of README.md stand here line by line, and answer what their comments tell. */
final class ReadmeTest {
    private static final Path README = Path.of("README.md");
    private static final Path SELF = Path.of("src/test/java/ReadmeTest.java");

    public static void main(String[] args) throws IOException {
        aGuestThatTells();
        aSupervisorWithAProgram();
        theExamplesAreTheReadmes();
        Check.end();
    }

    private static void aGuestThatTells() {
        // example
        ControlProgram x = new ControlProgram();
        x.store(0, 24, 5 << 12 | 3);              // SET  register 0 becomes 5
        x.store(0, 25, 13);                       // TELL register 0
        x.store(0, 26, 14);                       // WAIT
        x.start(0, 24);                           // guest 0 is RUNNING at address 24
        int made = x.run(100);                    // 3: then no guest can make a step
        long told = x.told(0);                    // 4294967301: guest 0 told 5
        int state = x.guest(0, 0);                // 2, WAITING
        x.keep(0, 1);                             // slot 1 holds what guest 0 is now
        x.back(2, 1);                             // guest 2 becomes that
        int copied = x.guest(2, 3);               // 5: its register 0
        // end of example
        Check.due("made", made, 3);
        Check.due("told", told, 4294967301L);
        Check.due("state", state, 2);
        Check.due("WAITING", ControlProgram.WAITING, 2);
        Check.due("copied", copied, 5);
    }

    private static void aSupervisorWithAProgram() {
        // example
        ControlProgram y = new ControlProgram();
        y.store(1, 40, 7 << 12 | 10);             // the program: CALL with code 7
        y.store(1, 56, 5 << 2 | 2 | 1);           // the TABLE's first ENTRY: page 5, not for writing
        y.store(1, 24, 56 << 12 | 3);             // the supervisor: SET register 0 becomes 56
        y.store(1, 25, 12);                       // TABLE becomes register 0
        y.store(1, 26, 30 << 6 | 11);             // PSW becomes the word at 30
        y.store(1, 30, 64 + 128);                 // address 0, PROBLEM and MAPPED
        y.store(1, 3, 16);                        // the PSW after a CALL: on at 16
        y.store(1, 16, 1 << 6);                   // LOAD register 0 becomes the word at 1, the code
        y.store(1, 17, 13);                       // TELL register 0
        y.start(1, 24);
        int first = y.run(3);                     // 3: the program is next
        int reads = y.leads(1, 0, false);         // 40
        int writes = y.leads(1, 0, true);         // -5: not for writing
        int second = y.run(3);                    // 3: CALL, LOAD, TELL
        long code = y.told(0);                    // 12884901895: guest 1 told 7
        int in = y.frame(1, 5);                   // 1: the second page that was used
        int pagings = y.guest(1, 8);              // 4: pages 3, 5, 0 and 2
        // end of example
        Check.due("first", first, 3);
        Check.due("reads", reads, 40);
        Check.due("writes", writes, -5);
        Check.due("second", second, 3);
        Check.due("code", code, 12884901895L);
        Check.due("in", in, 1);
        Check.due("pagings", pagings, 4);
        Check.due("frames of pages 3, 5, 0, 2", y.frame(1, 3) + "" + in + y.frame(1, 0) + y.frame(1, 2), "0123");
    }

    private static void theExamplesAreTheReadmes() throws IOException {
        List<String> told = parts(README, "```java\n(.*?)```");
        List<String> tested = parts(SELF, "// example\n(.*?) *// end of example");
        Check.due("examples", told.size(), 2);
        Check.due("the examples of README.md", String.join("\n", told), String.join("\n", tested));
    }

    private static List<String> parts(Path file, String form) throws IOException {
        return Pattern.compile(form, Pattern.DOTALL).matcher(Files.readString(file)).results()
            .map(part -> part.group(1).replaceAll("(?m)^ +", "")).toList();
    }
}
