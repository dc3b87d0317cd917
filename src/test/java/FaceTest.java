import java.lang.reflect.Constructor;
import java.lang.reflect.Field;
import java.lang.reflect.Member;
import java.lang.reflect.Method;
import java.lang.reflect.Modifier;
import java.nio.charset.StandardCharsets;
import java.nio.file.Files;
import java.nio.file.Path;
import java.util.ArrayList;
import java.util.Arrays;
import java.util.List;
import java.util.Set;
import java.util.TreeSet;
import java.util.regex.Matcher;
import java.util.regex.Pattern;

/** The face is the document's and nothing more, and the source keeps to what can be told from its text of LANGUAGE.md. */
public final class FaceTest {
    private static final String INDEX = " throws IndexOutOfBoundsException";
    private static final String BOTH = INDEX + " IllegalArgumentException";
    private static final List<String> FACE = List.of(
            "int append(int,int,int,int,int)", "int load(int) throws IllegalArgumentException", "int errorOffset()",
            "int state(int) throws IllegalArgumentException", "int gate(int,int)" + BOTH, "int flow(int,int)" + BOTH,
            "int route(int,int)" + INDEX + " NoSuchElementException", "int tokens(int,int)" + INDEX,
            "int queue(int,int)" + INDEX, "int packet(int,int)" + BOTH, "int coupon(int,int)" + BOTH,
            "int loadOver(int,int,int)" + BOTH, "int curve(int,int)" + BOTH, "int endsAt(int)" + INDEX,
            "int billAfter(int,int)" + BOTH, "int help(int)" + INDEX, "int pass(int) throws IllegalArgumentException",
            "int forward(int,int)" + INDEX, "int grant(int,int,int)" + BOTH + " IllegalStateException",
            "int send(int,int)" + BOTH + " IllegalStateException", "int setThrift(int,int)" + BOTH, "int undo()",
            "long checksum()");

    public static void main(String[] args) throws Exception {
        Checks.due("SYNTAX_ERROR", PacketToll.SYNTAX_ERROR, -2);
        Checks.due("OUT_OF_RANGE", PacketToll.OUT_OF_RANGE, -3);
        Checks.due("REPEATED", PacketToll.REPEATED, -4);
        Checks.due("TOO_MANY", PacketToll.TOO_MANY, -5);
        Checks.due("TOO_DEEP", PacketToll.TOO_DEEP, -6);
        face();
        classes();
        String source = Files.readString(Path.of("src/main/java/PacketToll.java"), StandardCharsets.UTF_8);
        source(source);
        Checks.end("FaceTest");
    }

    private static void holds(String what, boolean true0) {
        Checks.due(what, true0 ? 1 : 0, 1);
    }

    private static boolean hidden(Member member) {
        return Modifier.isPrivate(member.getModifiers());
    }

    private static void face() {
        Set<String> found = new TreeSet<>();
        Set<String> names = new TreeSet<>();
        for (Method m : PacketToll.class.getDeclaredMethods()) {
            if (!hidden(m)) {
                StringBuilder line = new StringBuilder(m.getReturnType() + " " + m.getName() + "(");
                line.append(String.join(",", Arrays.stream(m.getParameterTypes()).map(Class::getName).toList()));
                line.append(m.getExceptionTypes().length > 0 ? ") throws" : ")");
                for (Class<?> e : m.getExceptionTypes()) {
                    line.append(' ').append(e.getSimpleName());
                }
                found.add(line.toString());
                names.add(m.getName());
                holds(m + " is public, not static", Modifier.isPublic(m.getModifiers()) && !Modifier.isStatic(m.getModifiers()));
            }
        }
        holds("methods of the face: " + found, found.equals(new TreeSet<>(FACE)));
        for (Class<?> c : allClasses()) {
            for (Method m : c.getDeclaredMethods()) {
                holds(m + " does not bear a name of the face", c == PacketToll.class && !hidden(m) || !names.contains(m.getName()));
            }
        }
        Set<String> constants = new TreeSet<>();
        for (Field f : PacketToll.class.getDeclaredFields()) {
            if (!hidden(f)) {
                constants.add(f.getType() + " " + f.getName());
            }
        }
        holds("constants: " + constants, constants.equals(Set.of("int SYNTAX_ERROR", "int OUT_OF_RANGE", "int REPEATED",
                "int TOO_MANY", "int TOO_DEEP")));
        Constructor<?>[] all = PacketToll.class.getDeclaredConstructors();
        holds("one public constructor", all.length == 1 && all[0].getParameterCount() == 0 && Modifier.isPublic(all[0].getModifiers()));
        holds("public and final", Modifier.isPublic(PacketToll.class.getModifiers()) && Modifier.isFinal(PacketToll.class.getModifiers()));
    }

    private static List<Class<?>> allClasses() {
        List<Class<?>> all = new ArrayList<>(List.of(PacketToll.class));
        all.addAll(Arrays.asList(PacketToll.class.getDeclaredClasses()));
        return all;
    }

    private static void classes() {
        holds("at most twelve classes", allClasses().size() <= 12);
        for (Class<?> c : allClasses()) {
            holds(c + " holds no further classes", c == PacketToll.class || c.getDeclaredClasses().length == 0);
            holds(c + " is static", c == PacketToll.class || Modifier.isStatic(c.getModifiers()) && hidden0(c));
            int own = 0;
            for (Field f : c.getDeclaredFields()) {
                boolean shared = Modifier.isStatic(f.getModifiers());
                holds(f + ": static fields are final ints", !shared || Modifier.isFinal(f.getModifiers()) && f.getType() == int.class);
                own += shared ? 0 : 1;
            }
            holds(c + " has at most twenty fields", own <= 20);
            for (Method m : c.getDeclaredMethods()) {
                holds(m + " takes at most seven parameters", m.getParameterCount() <= 7);
            }
        }
    }

    private static boolean hidden0(Class<?> c) {
        return Modifier.isPrivate(c.getModifiers());
    }

    private static void source(String source) {
        for (String bad : List.of("->", "::", "\\bcatch\\b", "\\btry\\b", "\\bfinally\\b", "\\bassert\\b", "\\bsynchronized\\b",
                "\\bequals\\b", "\\bhashCode\\b", "\\btoString\\b", "\\b[A-Za-z]+Exact\\b", "\\b[A-Z][a-z]+\\.M(AX|IN)_VALUE\\b",
                "\\bSystem\\.(?!arraycopy)", "\\bArrays\\.(?!copyOf|fill)", "\\bMath\\.(?!max|min)", "\\bstatic \\{",
                "^package\\b", "[^\\x00-\\x7f]", "\\+ \"", "\" \\+")) {
            Matcher m = Pattern.compile(bad, Pattern.MULTILINE).matcher(source);
            holds("the source holds no " + bad, !m.find());
        }
        Set<String> imports = new TreeSet<>();
        for (String line : source.split("\n")) {
            if (line.startsWith("import ")) {
                imports.add(line);
            }
        }
        holds("imports: " + imports, Set.of("import java.util.Arrays;", "import java.util.NoSuchElementException;").containsAll(imports));
        methodsAreShort(source);
    }

    private static void methodsAreShort(String source) {
        String[] lines = source.split("\n");
        int begin = -1;
        for (int i = 0; i < lines.length; i++) {
            String line = lines[i];
            int indent = line.length() - line.stripLeading().length();
            boolean member = indent == 4 || indent == 8;
            if (member && line.endsWith("{") && line.contains("(") && !line.contains(" class ")) {
                begin = i;
            } else if (member && line.strip().equals("}") && begin >= 0) {
                holds("the method at line " + (begin + 1) + " is short", i - begin < 60);
                begin = -1;
            }
        }
    }
}
