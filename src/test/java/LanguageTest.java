import java.io.IOException;
import java.lang.reflect.Array;
import java.lang.reflect.Constructor;
import java.lang.reflect.Field;
import java.lang.reflect.Method;
import java.lang.reflect.Modifier;
import java.nio.file.Files;
import java.nio.file.Path;
import java.util.Arrays;
import java.util.IdentityHashMap;
import java.util.Map;
import java.util.Set;
import java.util.TreeSet;
import java.util.regex.Matcher;
import java.util.regex.Pattern;

/** The face of the document, and those rules of LANGUAGE.md that can be seen in the source and the class files. */
public final class LanguageTest {
    private static final Check check = new Check();
    private static final Set<String> FACE = new TreeSet<>(Arrays.asList(
        "feed(5)", "end(1)", "load(0)", "fault(1)", "cause(0)", "told(2)", "hasBody(2)", "value(2)", "call(3)", "field(2)",
        "compare(4)", "values(1)", "swap(2)", "hand(1)", "named(1)", "trace(1)", "count(1)", "clear(0)"));

    public static void main(String[] args) throws IOException, IllegalAccessException {
        face();
        faceOfDocument();
        insideClasses();
        source();
        room();
        check.finish("LanguageTest");
    }

    private static void face() {
        Set<String> names = new TreeSet<>();
        Set<String> told = new TreeSet<>();
        for (String row : FACE) {
            names.add(row.substring(0, row.indexOf('(')));
        }
        for (Method m : EnumRules.class.getDeclaredMethods()) {
            if (Modifier.isPrivate(m.getModifiers())) {
                check.holds("private " + m.getName() + " bears a name of its own", !names.contains(m.getName()));
            } else {
                check.holds(m.getName() + " is public and answers an int",
                    Modifier.isPublic(m.getModifiers()) && m.getReturnType() == int.class);
                told.add(m.getName() + "(" + m.getParameterCount() + ")");
            }
        }
        check.holds("the public methods are " + told, told.equals(FACE));
        Set<String> constants = new TreeSet<>();
        for (Field f : EnumRules.class.getDeclaredFields()) {
            if (!Modifier.isPrivate(f.getModifiers())) {
                constants.add(f.getName());
            }
        }
        check.holds("constants " + constants, constants.equals(new TreeSet<>(Arrays.asList("UNKNOWN", "OUTSIDE", "ROOM", "NONE"))));
        check.due("UNKNOWN", EnumRules.UNKNOWN, -1000001);
        check.due("OUTSIDE", EnumRules.OUTSIDE, -1000002);
        check.due("ROOM", EnumRules.ROOM, -1000004);
        check.due("NONE", EnumRules.NONE, -1000009);
        Constructor<?>[] makers = EnumRules.class.getDeclaredConstructors();
        check.holds("one public constructor", makers.length == 1 && Modifier.isPublic(makers[0].getModifiers())
            && makers[0].getParameterCount() == 0);
        check.holds("final", Modifier.isFinal(EnumRules.class.getModifiers()));
    }

    /** Word for word, the names of the parameters too. */
    private static void faceOfDocument() throws IOException {
        String source = Files.readString(Path.of("src/main/java/EnumRules.java"));
        String document = Files.readString(Path.of("../shared/DOC.md"));
        int from = document.indexOf("```java") + 7;
        int rows = 0;
        for (String line : document.substring(from, document.indexOf("```", from)).split("\n")) {
            String row = line.trim();
            if (row.startsWith("public ")) {
                rows++;
                check.holds("the source has: " + row, source.contains(row.endsWith(");") ? row.replace(");", ") {") : row));
            }
        }
        check.due("rows of the document's face", rows, FACE.size() + 3);
    }

    private static void insideClasses() {
        Class<?>[] inside = EnumRules.class.getDeclaredClasses();
        check.holds("at most twelve classes", inside.length + 1 <= 12);
        for (Class<?> c : inside) {
            check.holds(c + " is static", Modifier.isStatic(c.getModifiers()));
            int fields = 0;
            for (Field f : c.getDeclaredFields()) {
                boolean isStatic = Modifier.isStatic(f.getModifiers());
                check.holds(f + " is final if it is static", !isStatic || Modifier.isFinal(f.getModifiers()));
                fields += isStatic ? 0 : 1;
            }
            check.holds(c + " has some twenty fields at most", fields <= 20);
            for (Method m : c.getDeclaredMethods()) {
                check.holds(m + " has seven parameters at most", m.getParameterCount() <= 7);
                check.holds(m + " bears no name of the face", FACE.stream().noneMatch(row -> row.startsWith(m.getName() + "(")));
            }
        }
    }

    private static void source() throws IOException {
        String all = Files.readString(Path.of("src/main/java/EnumRules.java"));
        String code = all.replaceAll("(?s)/\\*.*?\\*/", "").replaceAll("//[^\n]*", "");
        String[] banned = {"\\bthrow", "\\btry\\b", "\\bcatch\\b", "\\bsynchronized\\b", "\\bassert\\b", "->", "::", "\\bimport\\b",
            "\\bpackage\\b", "Exact\\b", "\\bprotected\\b", "\\bObject\\b", "\\bSystem\\.(?!arraycopy)", "\\bstatic\\s*\\{"};
        for (String word : banned) {
            Matcher m = Pattern.compile(word).matcher(code);
            check.holds("the source has no " + word, !m.find());
        }
        for (String line : code.split("\n")) {
            boolean makes = Pattern.compile("\\bnew\\b").matcher(line).find();
            boolean atStart = line.matches("\\s*(private |final )[^()]*= new .*") || line.contains("loaded.begin(new Tape())")
                || line.contains("enums[k] = new Enumeration()");
            check.holds("only constructors make objects:" + line, !makes || atStart);
        }
        check.holds("bytes are 0 to 127", all.chars().allMatch(c -> c < 128));
    }

    /** As no call makes anything, the dearest run is one that makes a new object by each of its calls. */
    private static void room() throws IllegalAccessException {
        Map<Object, Boolean> seen = new IdentityHashMap<>();
        long elements = countIn(new EnumRules(), seen);
        check.holds(seen.size() + " objects, 512 times, have room", seen.size() * 512L <= 600_000);
        check.holds(elements + " fields and elements, 512 times, have room", elements * 512 <= 7_300_000);
    }

    private static long countIn(Object it, Map<Object, Boolean> seen) throws IllegalAccessException {
        if (it == null || seen.put(it, true) != null) {
            return 0;
        }
        if (it.getClass().isArray()) {
            int length = Array.getLength(it);
            long many = length;
            for (int k = 0; k < length && !it.getClass().getComponentType().isPrimitive(); k++) {
                many += countIn(Array.get(it, k), seen);
            }
            return many;
        }
        long many = 0;
        for (Field f : it.getClass().getDeclaredFields()) {
            if (!Modifier.isStatic(f.getModifiers())) {
                f.setAccessible(true);
                many += 1 + (f.getType().isPrimitive() ? 0 : countIn(f.get(it), seen));
            }
        }
        return many;
    }
}
