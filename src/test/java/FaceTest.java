import java.io.IOException;
import java.lang.reflect.Constructor;
import java.lang.reflect.Executable;
import java.lang.reflect.Field;
import java.lang.reflect.Method;
import java.lang.reflect.Modifier;
import java.nio.file.Files;
import java.nio.file.Path;
import java.util.Arrays;
import java.util.List;
import java.util.Set;
import java.util.TreeSet;
import java.util.regex.Pattern;
import java.util.stream.Collectors;

/** The public face of the document, and what can be seen of the rules of the language. */
public final class FaceTest {
    private static final Check CHECK = new Check();

    private static final Set<String> FACE = new TreeSet<>(List.of(
        "int field(int, int, boolean, long)", "int make(int, int, int, int)", "boolean canRead(int, int)",
        "int register(int, int)", "int versions(int)", "int version(int, int)", "int give(long)", "int stage(int)",
        "int drop()", "int load(int)", "int compact(int)", "int read(int, int, int)", "long number(int)",
        "int records(int)", "int files(int)", "int octet(int, int)", "int limit(int)", "boolean restart()",
        "int writes()"));

    public static void main(String[] args) throws IOException {
        face();
        classes();
        text();
        CHECK.end();
    }

    private static String types(Executable e) {
        return Arrays.stream(e.getParameterTypes()).map(Class::getSimpleName).collect(Collectors.joining(", ", "(", ")"));
    }

    private static String head(Method m) {
        return m.getReturnType().getSimpleName() + " " + m.getName() + types(m);
    }

    private static void due(String what, boolean got) {
        CHECK.due(what, got, true);
    }

    private static void face() {
        CHECK.begin("the face");
        due("public and final", Modifier.isPublic(SchemaTables.class.getModifiers())
            && Modifier.isFinal(SchemaTables.class.getModifiers()));
        Set<String> open = new TreeSet<>();
        for (Method m : SchemaTables.class.getDeclaredMethods()) {
            if (!Modifier.isPrivate(m.getModifiers())) {
                open.add(head(m));
                due(m.getName() + " is public and not static",
                    Modifier.isPublic(m.getModifiers()) && !Modifier.isStatic(m.getModifiers()));
            }
        }
        due("the methods " + open, open.equals(FACE));
        Constructor<?>[] constructors = SchemaTables.class.getDeclaredConstructors();
        due("one public constructor", constructors.length == 1 && Modifier.isPublic(constructors[0].getModifiers())
            && constructors[0].getParameterCount() == 0);
        Set<String> constants = new TreeSet<>();
        for (Field f : SchemaTables.class.getDeclaredFields()) {
            if (!Modifier.isPrivate(f.getModifiers())) {
                constants.add(f.getName());
            }
        }
        due("the constants " + constants, constants.equals(Set.of("NONE", "FAULT", "FULL", "DOWN")));
        CHECK.due("NONE", SchemaTables.NONE, -1);
        CHECK.due("FAULT", SchemaTables.FAULT, -2);
        CHECK.due("FULL", SchemaTables.FULL, -3);
        CHECK.due("DOWN", SchemaTables.DOWN, -4);
    }

    private static void classes() {
        CHECK.begin("the classes");
        Class<?>[] inside = SchemaTables.class.getDeclaredClasses();
        due("at most twelve", inside.length < 12);
        Set<String> names = FACE.stream().map(h -> h.replaceAll("^\\w+ |\\(.*", "")).collect(Collectors.toSet());
        looksGood(SchemaTables.class);
        for (Class<?> c : inside) {
            looksGood(c);
            due(c + " is private and static",
                Modifier.isPrivate(c.getModifiers()) && Modifier.isStatic(c.getModifiers()));
            for (Method m : c.getDeclaredMethods()) {
                due(c + " has no method with a name of the face: " + m.getName(), !names.contains(m.getName()));
            }
        }
    }

    private static void looksGood(Class<?> c) {
        int fields = 0;
        for (Field f : c.getDeclaredFields()) {
            boolean isStatic = Modifier.isStatic(f.getModifiers());
            due(f + " is final if it is static", !isStatic || Modifier.isFinal(f.getModifiers()));
            fields += isStatic ? 0 : 1;
        }
        due(c + " has at most twenty fields", fields <= 20);
        Set<String> open = new TreeSet<>();
        for (Method m : c.getDeclaredMethods()) {
            due(m + " has at most seven parameters", m.getParameterCount() <= 7);
            due(m + " has a name of its own", open.add(m.getName()));
        }
        for (Constructor<?> k : c.getDeclaredConstructors()) {
            due(k + " has at most seven parameters", k.getParameterCount() <= 7);
        }
    }

    private static void text() throws IOException {
        CHECK.begin("the text");
        String text = Files.readString(Path.of("src/main/java/SchemaTables.java"));
        String code = text.replaceAll("(?s)/\\*.*?\\*/", "").replaceAll("//[^\\n]*", "");
        List<String> absent = List.of("\\bimport\\b", "\\bpackage\\b", "->", "::", "\\bthrow", "\\btry\\b", "\\bcatch\\b",
            "\\bfinally\\b", "\\bassert\\b", "\\bsynchronized\\b", "\\bSystem\\b", "\\bThread\\b", "\\bRandom\\b",
            "\\bvar\\b", "\\bObject\\b", "\\bfloat\\b", "\\bdouble\\b", "Exact\\b", "\\bhashCode\\b", "\\bequals\\b",
            "\\btoString\\b", "static\\s*\\{", "\\bwhile\\s*\\(true\\)", "for\\s*\\(\\s*;\\s*;");
        for (String word : absent) {
            due("no " + word, !Pattern.compile(word).matcher(code).find());
        }
        due("characters 0 to 127 alone", text.chars().allMatch(c -> c < 128));
        dueShortMethods(code.split("\n"));
        dueFewMakers(code.split("\n"));
    }

    /** A method of a class inside begins with eight blanks, one of the outer class with four. */
    private static boolean isHead(String line) {
        int blanks = line.replaceAll("\\S.*", "").length();
        return line.endsWith(") {") && (blanks == 4 || blanks == 8)
            && line.matches("\\s*(public|private|static|int|long|boolean|void|[A-Z]\\w*)\\b.*");
    }

    private static void dueShortMethods(String[] lines) {
        for (int i = 0; i < lines.length; i++) {
            String blanks = lines[i].replaceAll("\\S.*", "");
            int end = i;
            while (isHead(lines[i]) && !lines[end].equals(blanks + "}")) {
                end++;
            }
            due("at most sixty lines: " + lines[i].strip(), end - i <= 60);
        }
    }

    /** Only a new object, field and make may make objects: all calls of a run have one room in common. */
    private static void dueFewMakers(String[] lines) {
        Set<String> makers = Set.of("ofPlain", "ofEnum", "ofArray", "ofUnion", "ofRecord", "addField", "buildRecord");
        String method = "";
        int found = 0;
        for (String line : lines) {
            if (isHead(line)) {
                method = line.replaceAll("\\(.*", "").replaceAll(".*\\W", "");
            }
            if (line.matches(".*\\bnew\\b.*|.*\\.clone\\(.*")) {
                found++;
                boolean isConstructor = Character.isUpperCase(method.charAt(0));
                due(method + " makes no objects", isConstructor || makers.contains(method));
            }
        }
        due("makers of objects were found", found > makers.size());
    }
}
