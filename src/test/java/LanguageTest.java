import java.io.IOException;
import java.lang.reflect.Constructor;
import java.lang.reflect.Field;
import java.lang.reflect.Method;
import java.lang.reflect.Modifier;
import java.nio.file.Files;
import java.nio.file.Path;
import java.util.ArrayList;
import java.util.List;
import java.util.Set;
import java.util.TreeSet;
import java.util.regex.Matcher;
import java.util.regex.Pattern;

/** The public face of the document, and those rules of LANGUAGE.md that show in the class or its text. */
final class LanguageTest {
    private static final Set<String> FACE = Set.of(
        "public boolean ControlProgram.store(int,int,int)", "public int ControlProgram.word(int,int)",
        "public boolean ControlProgram.start(int,int)", "public boolean ControlProgram.stop(int)",
        "public boolean ControlProgram.resume(int)", "public boolean ControlProgram.copy(int,int)",
        "public boolean ControlProgram.keep(int,int)", "public boolean ControlProgram.back(int,int)",
        "public boolean ControlProgram.post(int,int)", "public int ControlProgram.run(int)",
        "public int ControlProgram.guest(int,int)", "public int ControlProgram.frame(int,int)",
        "public int ControlProgram.leads(int,int,boolean)", "public long ControlProgram.told(int)",
        "public int ControlProgram.turn(boolean)");
    private static final Set<String> CONSTANTS = Set.of("STOPPED", "RUNNING", "WAITING", "BAD");
    private static final String FORBIDDEN = "\\b(import|package|throw|try|catch|synchronized|assert|instanceof|null"
        + "|float|double|String|Object|Math|Integer|Long|System|Arrays|interface|enum|record)\\b|->|::";
    private static final int MOST_LINES = 60;
    private static final int MOST_DEEP = 6;
    private static final int MOST_FIELDS = 40;

    public static void main(String[] args) throws IOException {
        theMethods();
        theFields();
        String text = Files.readString(Path.of("src/main/java/ControlProgram.java"));
        String code = text.replaceAll("(?s)/\\*.*?\\*/", "").replaceAll("//[^\n]*", "");
        forbiddenWords(code);
        methodsAreShortAndCallsNotDeep(code);
        Check.end();
    }

    private static void theMethods() {
        Class<?> c = ControlProgram.class;
        Check.due("class", Modifier.toString(c.getModifiers()), "public final");
        Check.due("nested classes", c.getDeclaredClasses().length, 0);
        Constructor<?>[] constructors = c.getDeclaredConstructors();
        Check.due("constructors", constructors.length, 1);
        Check.due("constructor", constructors[0].toString(), "public ControlProgram()");
        Set<String> seen = new TreeSet<>();
        Set<String> publicNames = new TreeSet<>();
        for (Method m : c.getDeclaredMethods()) {
            if (!Modifier.isPrivate(m.getModifiers())) {
                seen.add(m.toString());
                publicNames.add(m.getName());
            }
            Check.due("parameters of " + m, m.getParameterCount() <= 7, true);
        }
        Check.due("the public methods", seen.toString(), new TreeSet<>(FACE).toString());
        for (Method m : c.getDeclaredMethods()) {
            boolean hidden = Modifier.isPrivate(m.getModifiers());
            Check.due("name of " + m, hidden && publicNames.contains(m.getName()), false);
        }
    }

    private static void theFields() {
        int fields = 0;
        for (Field f : ControlProgram.class.getDeclaredFields()) {
            int m = f.getModifiers();
            if (CONSTANTS.contains(f.getName())) {
                Check.due("constant " + f.getName(), f.toString(),
                    "public static final int ControlProgram." + f.getName());
            } else {
                Check.due(f + " is private", Modifier.isPrivate(m), true);
            }
            if (Modifier.isStatic(m)) {
                Check.due(f + " is final", Modifier.isFinal(m), true);
                Check.due(f + " is a number", f.getType() == int.class || f.getType() == long.class, true);
            } else {
                fields++;
            }
        }
        Check.due("not too many fields", fields <= MOST_FIELDS, true);
    }

    private static void forbiddenWords(String code) {
        Matcher m = Pattern.compile(FORBIDDEN).matcher(code);
        while (m.find()) {
            Check.due("the word " + m.group(), true, false);
        }
        Matcher news = Pattern.compile("\\bnew\\b.*").matcher(code);
        while (news.find()) {
            Check.due(news.group(), news.group().matches("new (int|long|boolean)\\[[A-Z_]+\\];"), true);
        }
    }

    private static void methodsAreShortAndCallsNotDeep(String code) {
        List<String> names = new ArrayList<>();
        List<String> bodies = new ArrayList<>();
        Matcher m = Pattern.compile("(?ms)^    (?:public|private)(?: static)? \\w+ (\\w+)\\([^)]*\\) \\{\n(.*?)^    \\}")
            .matcher(code);
        while (m.find()) {
            names.add(m.group(1));
            bodies.add(m.group(2));
            Check.due(m.group(1) + " is short", m.group(2).lines().count() <= MOST_LINES, true);
        }
        Check.due("methods found", names.size(), ControlProgram.class.getDeclaredMethods().length);
        // The methods a chain of calls has got to, grown a call at a time: a recursion would never leave it empty.
        Set<String> reached = new TreeSet<>(names);
        for (int deep = 1; deep <= MOST_DEEP; deep++) {
            Set<String> next = new TreeSet<>();
            for (String name : reached) {
                Matcher call = Pattern.compile("\\b(\\w+)\\(").matcher(bodies.get(names.indexOf(name)));
                while (call.find()) {
                    if (names.contains(call.group(1))) {
                        next.add(call.group(1));
                    }
                }
            }
            reached = next;
        }
        Check.due("chains of more than six methods", reached.toString(), "[]");
    }
}
