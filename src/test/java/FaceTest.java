import java.io.IOException;
import java.lang.reflect.Constructor;
import java.lang.reflect.Field;
import java.lang.reflect.Method;
import java.lang.reflect.Modifier;
import java.nio.charset.StandardCharsets;
import java.nio.file.Files;
import java.nio.file.Path;
import java.util.Arrays;
import java.util.Set;
import java.util.TreeSet;
import java.util.regex.Pattern;

/** The public face as the document has it, and what LANGUAGE.md rules out of the file. */
public final class FaceTest {
    private static final Due due = new Due();
    private static final String METHODS =
        "int row(int,int) int lay(int,int,int) int at(int,int) int tear(int) int copy(int,int,int,int,int) "
        + "int mean(int) int text(int,int) int put(int,int,int) int fault(int) int club(int) int child(int,int) "
        + "int mark(int,int) int rule(int) int oust(int) int join(int) int fee() int grudge(int,int) int undo(int) "
        + "int keep(int) int on(int) int yes(int) int can() int swing(int) int rules(int) int longest(int) "
        + "int ways(int) int alone() int stands() int run(int) int splits() int peace() int power(int) "
        + "int share(int) int secrets() int told(int) int minutes(int) int odds(int) int lots(int,int) "
        + "int asked() long upper() long lower() int count(int) int finding() int findings(int) long digest()";

    public static void main(String[] args) throws IOException {
        classAndConstructor();
        constants();
        methods();
        nothingElseIsSeen();
        classesInside();
        words();
        lengths();
        due.end("FaceTest");
    }

    private static void holds(String what, boolean so) {
        due.is(what, so ? 1 : 0, 1);
    }

    private static void classAndConstructor() {
        holds("public and final", NobodyJoins.class.getModifiers() == (Modifier.PUBLIC | Modifier.FINAL));
        Constructor<?>[] all = NobodyJoins.class.getDeclaredConstructors();
        due.is("constructors", all.length, 1);
        holds("a public one without arguments", all[0].getModifiers() == Modifier.PUBLIC && all[0].getParameterCount() == 0);
    }

    private static void constants() {
        due.is("BAD", NobodyJoins.BAD, -1);
        due.is("FULL", NobodyJoins.FULL, -2);
        due.is("FINDING", NobodyJoins.FINDING, -3);
        due.is("STATE", NobodyJoins.STATE, -4);
        due.is("SPENT", NobodyJoins.SPENT, -6);
        due.is("NONE", NobodyJoins.NONE, -9);
        due.is("public fields", NobodyJoins.class.getFields().length, 6);
    }

    private static void methods() {
        Set<String> want = new TreeSet<>();
        String[] parts = METHODS.split(" ");
        for (int i = 0; i < parts.length; i += 2) {
            want.add(parts[i] + " " + parts[i + 1]);
        }
        due.is("the document's methods", want.size(), 45);
        Set<String> got = new TreeSet<>();
        Set<String> names = new TreeSet<>();
        for (Method m : NobodyJoins.class.getDeclaredMethods()) {
            if (Modifier.isPublic(m.getModifiers())) {
                StringBuilder types = new StringBuilder();
                for (Class<?> type : m.getParameterTypes()) {
                    types.append(types.length() == 0 ? "" : ",").append(type);
                }
                got.add(m.getReturnType() + " " + m.getName() + "(" + types + ")");
                names.add(m.getName());
                holds(m.getName() + " is no static one", !Modifier.isStatic(m.getModifiers()));
            }
        }
        holds("the public methods are " + got, got.equals(want));
        namesAreFree(NobodyJoins.class, names);
        for (Class<?> inside : NobodyJoins.class.getDeclaredClasses()) {
            namesAreFree(inside, names);
        }
    }

    private static void namesAreFree(Class<?> c, Set<String> names) {
        for (Method m : c.getDeclaredMethods()) {
            holds(m + " bears a public one's name", Modifier.isPublic(m.getModifiers()) || !names.contains(m.getName()));
            holds(m + " takes seven at most", m.getParameterCount() <= 7);
        }
    }

    private static void nothingElseIsSeen() {
        int seen = Modifier.PUBLIC | Modifier.PRIVATE;
        for (Field f : NobodyJoins.class.getDeclaredFields()) {
            holds(f + " is public or private", (f.getModifiers() & seen) != 0);
        }
        for (Method m : NobodyJoins.class.getDeclaredMethods()) {
            holds(m + " is public or private", (m.getModifiers() & seen) != 0);
        }
    }

    private static void classesInside() {
        Class<?>[] inside = NobodyJoins.class.getDeclaredClasses();
        holds("some twelve classes at most", inside.length < 12);
        for (Class<?> c : inside) {
            holds(c + " is static", Modifier.isStatic(c.getModifiers()));
            holds(c + " is not seen outside", (c.getModifiers() & (Modifier.PUBLIC | Modifier.PROTECTED)) == 0);
            fieldsOf(c);
        }
        fieldsOf(NobodyJoins.class);
    }

    private static void fieldsOf(Class<?> c) {
        int fields = 0;
        for (Field f : c.getDeclaredFields()) {
            boolean constant = Modifier.isStatic(f.getModifiers());
            fields += constant ? 0 : 1;
            holds(f + " is final", !constant || Modifier.isFinal(f.getModifiers()));
        }
        holds(c + " has some twenty fields at most", fields <= 20);
    }

    private static String source() throws IOException {
        return Files.readString(Path.of("src/main/java/NobodyJoins.java"), StandardCharsets.ISO_8859_1);
    }

    private static void words() throws IOException {
        String code = source().replaceAll("(?s)/\\*.*?\\*/", " ").replaceAll("//[^\n]*", " ").replaceAll("'.'", "' '");
        String[] ruledOut = {"throw", "throws", "try", "catch", "synchronized", "assert", "import", "package",
            "native", "volatile", "Exact", "Thread", "Random", "System\\s*\\.\\s*(?!arraycopy)", "hashCode",
            "Exception", "Error"};
        for (String word : ruledOut) {
            holds(word + " is ruled out", !Pattern.compile("\\b" + word).matcher(code).find());
        }
        for (String sign : new String[] {"->", "::", "\"", "@"}) {
            holds(sign + " is ruled out", !code.contains(sign));
        }
        holds("no static block", !Pattern.compile("static\\s*\\{").matcher(code).find());
        holds("signs of 1 to 127", code.chars().allMatch(c -> c < 128));
    }

    /** Methods are told by their indents: four in the class, eight in classes inside. */
    private static void lengths() throws IOException {
        String[] lines = source().split("\n");
        for (String indent : new String[] {"    ", "        "}) {
            int start = -1;
            for (int i = 0; i < lines.length; i++) {
                boolean opens = lines[i].matches(indent + "\\S.*\\) \\{") && !lines[i].matches("\\s*(if|for|while|switch) .*");
                start = opens ? i : start;
                if (start >= 0 && lines[i].equals(indent + "}")) {
                    holds(lines[start].trim() + " is short", i - start <= 60);
                    start = -1;
                }
            }
        }
        holds("lines stay within 120", Arrays.stream(lines).allMatch(line -> line.length() <= 120));
    }
}
