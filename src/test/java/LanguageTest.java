import java.io.IOException;
import java.lang.reflect.Constructor;
import java.lang.reflect.Field;
import java.lang.reflect.Method;
import java.lang.reflect.Modifier;
import java.nio.file.Files;
import java.nio.file.Path;
import java.util.Map;
import java.util.Set;
import java.util.TreeMap;
import java.util.TreeSet;
import java.util.regex.Matcher;
import java.util.regex.Pattern;

/** The public face of the document, and those rules of LANGUAGE.md that show in the class or its text. */
final class LanguageTest {
    private static final Set<String> FACE = Set.of(
        "public boolean ControlProgram.store(int,int,int)", "public int ControlProgram.word(int,int)",
        "public boolean ControlProgram.start(int,int)", "public boolean ControlProgram.stop(int)",
        "public boolean ControlProgram.resume(int)", "public boolean ControlProgram.copy(int,int)",
        "public boolean ControlProgram.keep(int,int)", "public boolean ControlProgram.back(int,int)",
        "public boolean ControlProgram.post(int,int)", "public int ControlProgram.run(int)",
        "public int ControlProgram.guest(int,int)", "public int ControlProgram.frame(int,int)",
        "public int ControlProgram.leads(int,int,boolean)", "public long ControlProgram.told(int)",
        "public int ControlProgram.turn(boolean)");
    private static final Set<String> CONSTANTS = Set.of("STOPPED", "RUNNING", "WAITING", "BAD");
    private static final String FORBIDDEN = "\\b(import|package|throw|throws|try|catch|synchronized|assert|instanceof"
        + "|null|float|double|String|Object|Math|Integer|Long|System|Arrays)\\b|->|::";
    private static final Pattern TYPE = Pattern.compile("\\b(class|interface|enum|record)\\s+\\w+\\s*[<({]");
    private static final Pattern METHOD =
        Pattern.compile("\\b(?:public|private)\\s+(?:static\\s+)?(?:\\w+\\s+)?(\\w+)\\s*\\([^()]*\\)\\s*\\{");
    private static final Pattern CALL = Pattern.compile("\\b(?!(?:if|for|while|switch|return)\\b)(\\w+)\\s*\\(");
    private static final Pattern NEW_ARRAY =
        Pattern.compile("new\\s+(int|long|short|byte|char|boolean)\\s*\\[[^\\[\\]]+\\]");
    /** The rule says "some sixty". */
    private static final int MOST_LINES = 65;
    private static final int MOST_DEEP = 6;
    private static final int MOST_FIELDS = 40;

    public static void main(String[] args) throws IOException {
        theMethods();
        theFields();
        String text = Files.readString(Path.of("src/main/java/ControlProgram.java"));
        String code = text.replaceAll("(?s)/\\*.*?\\*/", "").replaceAll("//[^\n]*", "");
        forbiddenWords(code);
        Map<String, String> bodies = bodies(code);
        arraysAreMadeAtTheStart(code, bodies);
        methodsAreShort(bodies);
        noCallInACallsArguments(bodies);
        callsAreNotDeep(bodies);
        Check.end();
    }

    private static void theMethods() {
        Class<?> c = ControlProgram.class;
        Check.due("class", Modifier.toString(c.getModifiers()), "public final");
        Check.due("nested classes", c.getDeclaredClasses().length, 0);
        Constructor<?>[] constructors = c.getDeclaredConstructors();
        Check.due("constructors", constructors.length, 1);
        Check.due("constructor", constructors[0].toString(), "public ControlProgram()");
        Set<String> seen = new TreeSet<>();
        Set<String> publicNames = new TreeSet<>();
        for (Method m : c.getDeclaredMethods()) {
            if (!Modifier.isPrivate(m.getModifiers())) {
                seen.add(m.toString());
                publicNames.add(m.getName());
            }
            Check.due("parameters of " + m, m.getParameterCount() <= 7, true);
        }
        Check.due("the public methods", seen.toString(), new TreeSet<>(FACE).toString());
        for (Method m : c.getDeclaredMethods()) {
            boolean hidden = Modifier.isPrivate(m.getModifiers());
            Check.due("name of " + m, hidden && publicNames.contains(m.getName()), false);
        }
    }

    private static void theFields() {
        int fields = 0;
        for (Field f : ControlProgram.class.getDeclaredFields()) {
            int m = f.getModifiers();
            if (CONSTANTS.contains(f.getName())) {
                Check.due("constant " + f.getName(), f.toString(),
                    "public static final int ControlProgram." + f.getName());
            } else {
                Check.due(f + " is private", Modifier.isPrivate(m), true);
            }
            if (Modifier.isStatic(m)) {
                Check.due(f + " is final", Modifier.isFinal(m), true);
                Check.due(f + " is a number", f.getType() == int.class || f.getType() == long.class, true);
            } else {
                fields++;
            }
        }
        Check.due("not too many fields", fields <= MOST_FIELDS, true);
    }

    private static void forbiddenWords(String code) {
        Matcher m = Pattern.compile(FORBIDDEN).matcher(code);
        while (m.find()) {
            Check.due("the word " + m.group(), true, false);
        }
        Check.due("classes in the file", TYPE.matcher(code).results().count(), 1);
    }

    /** The bodies of the methods and of the constructor, by name. */
    private static Map<String, String> bodies(String code) {
        Map<String, String> bodies = new TreeMap<>();
        Matcher m = METHOD.matcher(code);
        while (m.find()) {
            bodies.put(m.group(1), code.substring(m.end() - 1, close(code, m.end() - 1, '{', '}')));
        }
        Check.due("bodies found", bodies.size(), ControlProgram.class.getDeclaredMethods().length + 1);
        return bodies;
    }

    /** The place of what closes the brace or parenthesis at this place. */
    private static int close(String code, int at, char open, char closing) {
        int depth = 0;
        for (int i = at; i < code.length(); i++) {
            if (code.charAt(i) == open) {
                depth++;
            } else if (code.charAt(i) == closing && --depth == 0) {
                return i;
            }
        }
        return code.length();
    }

    private static void arraysAreMadeAtTheStart(String code, Map<String, String> bodies) {
        long made = Pattern.compile("\\bnew\\b").matcher(code).results().count();
        Check.due("things made that are no arrays", made - NEW_ARRAY.matcher(code).results().count(), 0);
        bodies.forEach((name, body) -> {
            boolean makes = Pattern.compile("\\bnew\\b").matcher(body).find();
            Check.due(name + " makes something", makes && !name.equals("ControlProgram"), false);
        });
    }

    private static void methodsAreShort(Map<String, String> bodies) {
        bodies.forEach((name, body) -> Check.due(name + " is short", body.lines().count() <= MOST_LINES, true));
    }

    private static void noCallInACallsArguments(Map<String, String> bodies) {
        bodies.forEach((name, body) -> {
            Matcher call = CALL.matcher(body);
            while (call.find()) {
                String arguments = body.substring(call.end(), close(body, call.end() - 1, '(', ')'));
                Check.due("a call in " + name + ": " + call.group() + arguments, CALL.matcher(arguments).find(), false);
            }
        });
    }

    /** The methods that a chain of calls has got to, grown a call at a time: a recursion would never leave it empty. */
    private static void callsAreNotDeep(Map<String, String> bodies) {
        Set<String> reached = new TreeSet<>(bodies.keySet());
        for (int deep = 1; deep <= MOST_DEEP; deep++) {
            Set<String> next = new TreeSet<>();
            for (String name : reached) {
                CALL.matcher(bodies.get(name)).results().map(call -> call.group(1)).filter(bodies::containsKey)
                    .forEach(next::add);
            }
            reached = next;
        }
        Check.due("chains of more than six methods", reached.toString(), "[]");
    }
}
