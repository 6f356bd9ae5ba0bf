import java.io.DataInputStream;
import java.io.IOException;
import java.lang.management.ManagementFactory;
import java.lang.reflect.Constructor;
import java.lang.reflect.Field;
import java.lang.reflect.Method;
import java.lang.reflect.Modifier;
import java.nio.file.Files;
import java.nio.file.Path;
import java.util.ArrayList;
import java.util.List;
import java.util.Map;
import java.util.Set;
import java.util.TreeMap;
import java.util.TreeSet;
import java.util.regex.Matcher;
import java.util.regex.Pattern;

/** The document's face, and the rules of LANGUAGE.md that a program can see; run from the project's folder. */
public final class LanguageTest {
    private static final Path SOURCE = Path.of("src/main/java/PalmTastes.java");
    private static final Due due = new Due();

    public static void main(String[] args) throws IOException {
        face();
        constants();
        fields();
        for (Class<?> c : classes()) library(c);
        String source = withoutComments(Files.readString(SOURCE));
        words(source);
        newOnlyAtFirst(source);
        lengths(source);
        callsMakeNothing();
        due.end("LanguageTest");
    }

    private static String withoutComments(String source) {
        return source.replaceAll("(?s)/\\*.*?\\*/", "").replaceAll("//[^\n]*", "");
    }

    private static void face() {
        Map<String, String> face = new TreeMap<>();
        for (String m : List.of("row iii", "set iii", "copy iiiii", "drop i", "feed li", "street ", "fault ", "paint iii", "day i",
            "walk iii", "rest i", "undo ", "wall ii", "reader ii", "felt iii", "read iiii", "wrong iiii", "often iii",
            "spice iiiii", "both iiii", "order iii", "written iiii", "forged ii", "image i", "restore i", "kind i", "as ii",
            "ask ii", "trace i", "count i", "status ")) {
            face.put(m.substring(0, m.indexOf(' ')), m.substring(m.indexOf(' ') + 1));
        }
        Set<String> seen = new TreeSet<>();
        for (Class<?> c : classes()) {
            for (Method m : c.getDeclaredMethods()) {
                boolean open = c == PalmTastes.class && Modifier.isPublic(m.getModifiers());
                if (open) {
                    StringBuilder types = new StringBuilder();
                    for (Class<?> t : m.getParameterTypes()) types.append(t.getName().charAt(0));
                    due.is("the face of " + m.getName(), types.toString().equals(face.get(m.getName())) ? 1 : 0, 1);
                    due.is("its answer", m.getReturnType() == int.class ? 1 : 0, 1);
                    seen.add(m.getName());
                } else {
                    due.is("a name of the face: " + m, face.containsKey(m.getName()) ? 1 : 0, 0);
                    due.is("private in the public class: " + m, c != PalmTastes.class || Modifier.isPrivate(m.getModifiers()) ? 1 : 0, 1);
                }
                due.is("seven parameters: " + m, m.getParameterCount() <= 7 ? 1 : 0, 1);
            }
        }
        due.is("all of the face", seen.size(), face.size());
        Constructor<?>[] made = PalmTastes.class.getDeclaredConstructors();
        due.is("constructors", made.length, 1);
        due.is("public", Modifier.isPublic(made[0].getModifiers()) ? 1 : 0, 1);
        due.is("final", Modifier.isFinal(PalmTastes.class.getModifiers()) ? 1 : 0, 1);
    }

    /** As they stand in the class, not as a compiler has written them into this test. */
    private static void constants() {
        Map<String, Integer> values = Map.of("NONE", -1000000, "BAD", -1000001, "STATE", -1000002, "FULL", -1000003);
        int open = 0;
        for (Field f : PalmTastes.class.getFields()) {
            open++;
            boolean told = values.containsKey(f.getName()) && f.getType() == int.class;
            due.is("told: " + f, told && f.getModifiers() == (Modifier.PUBLIC | Modifier.STATIC | Modifier.FINAL) ? 1 : 0, 1);
            try {
                if (told) due.is(f.getName(), f.getInt(null), values.get(f.getName()));
            } catch (IllegalAccessException e) {
                due.is(f.getName() + " is open", 0, 1);
            }
        }
        due.is("constants", open, 4);
    }

    private static List<Class<?>> classes() {
        List<Class<?>> all = new ArrayList<>();
        all.add(PalmTastes.class);
        for (Class<?> c : PalmTastes.class.getDeclaredClasses()) all.add(c);
        return all;
    }

    private static void fields() {
        Set<String> open = Set.of("NONE", "BAD", "STATE", "FULL");
        due.is("twelve classes", classes().size() <= 12 ? 1 : 0, 1);
        for (Class<?> c : classes()) {
            int own = 0;
            due.is("static: " + c, c == PalmTastes.class || Modifier.isStatic(c.getModifiers()) ? 1 : 0, 1);
            for (Field f : c.getDeclaredFields()) {
                boolean fixed = Modifier.isStatic(f.getModifiers());
                if (!fixed) own++;
                due.is("final: " + f, !fixed || Modifier.isFinal(f.getModifiers()) ? 1 : 0, 1);
                boolean told = c == PalmTastes.class && open.contains(f.getName());
                due.is("private: " + f, c != PalmTastes.class || told || Modifier.isPrivate(f.getModifiers()) ? 1 : 0, 1);
            }
            due.is("twenty fields: " + c, own <= 20 ? 1 : 0, 1);
        }
    }

    /** What stands in rule 4, by what the compiled class calls: no other class of Java's, no other function of these. */
    private static final Map<String, Set<String>> LIBRARY = Map.of(
        "java/lang/Object", Set.of("<init>"),
        "java/lang/String", Set.of("<init>", "length", "charAt", "isEmpty", "equals", "indexOf", "substring", "toCharArray"),
        "java/lang/StringBuilder", Set.of("<init>", "append", "charAt", "setCharAt", "setLength", "deleteCharAt", "reverse", "length", "toString"),
        "java/util/ArrayList", Set.of("<init>", "add", "get", "set", "remove", "size", "isEmpty", "clear", "iterator"),
        "java/util/List", Set.of("add", "get", "set", "remove", "size", "isEmpty", "clear", "iterator", "of"),
        "java/lang/Integer", Set.of("valueOf", "intValue", "compare", "max", "min", "bitCount"),
        "java/lang/Long", Set.of("compare", "max", "min", "bitCount"),
        "java/lang/Math", Set.of("max", "min", "abs", "floorDiv", "floorMod"),
        "java/lang/System", Set.of("arraycopy"),
        "java/util/Arrays", Set.of("copyOf", "copyOfRange", "fill"));

    private static void library(Class<?> c) throws IOException {
        try (DataInputStream in = new DataInputStream(c.getResourceAsStream(c.getName() + ".class"))) {
            in.skipBytes(8);
            int size = in.readUnsignedShort();
            int[] tags = new int[size];
            int[][] parts = new int[size][2];
            String[] texts = new String[size];
            for (int i = 1; i < size; i++) {
                tags[i] = in.readUnsignedByte();
                switch (tags[i]) {
                    case 1 -> texts[i] = in.readUTF();
                    case 3, 4 -> in.readInt();
                    case 5, 6 -> {
                        in.readLong();
                        i++;
                    }
                    case 9, 10, 11, 12, 17, 18 -> parts[i] = new int[] {in.readUnsignedShort(), in.readUnsignedShort()};
                    case 15 -> in.skipBytes(3);
                    default -> parts[i][0] = in.readUnsignedShort();
                }
            }
            for (int i = 1; i < size; i++) {
                due.is("a lambda, or texts joined by +, in " + c.getName(), tags[i] >= 15 && tags[i] <= 18 ? 1 : 0, 0);
                if (tags[i] < 9 || tags[i] > 11) continue;
                String of = texts[parts[parts[i][0]][0]];
                String name = texts[parts[parts[i][1]][0]];
                boolean own = of.startsWith("PalmTastes") || of.startsWith("[") && name.equals("clone");
                boolean listed = tags[i] != 9 && LIBRARY.getOrDefault(of, Set.of()).contains(name);
                due.is("listed: " + of + "." + name, own || listed ? 1 : 0, 1);
            }
        }
    }

    private static void words(String source) {
        for (String word : List.of("throw", "throws", "try", "catch", "finally", "synchronized", "assert", "package", "native",
            "equals", "hashCode", "toString", "System.exit", "currentTimeMillis", "nanoTime", "Random", "Thread", "String.format")) {
            Matcher m = Pattern.compile("(?<![\\w.])" + Pattern.quote(word) + "(?!\\w)").matcher(source);
            due.is("the word " + word, m.find() ? 1 : 0, 0);
        }
        due.is("a lambda or a switch by arrow", source.contains("->") ? 1 : 0, 0);
        due.is("a method reference", source.contains("::") ? 1 : 0, 0);
        due.is("a static block", Pattern.compile("static\\s*\\{").matcher(source).find() ? 1 : 0, 0);
        Matcher imports = Pattern.compile("import ([\\w.*]+);").matcher(source);
        while (imports.find()) {
            boolean listed = Set.of("java.util.Arrays", "java.util.ArrayList", "java.util.List", "java.util.Iterator").contains(imports.group(1));
            due.is("import " + imports.group(1), listed ? 1 : 0, 1);
        }
        due.is("signs above 127", source.chars().filter(c -> c > 127).count(), 0);
    }

    /** What is made is made by constructors: in a field's initialiser, or into an array's place in a loop over it. */
    private static void newOnlyAtFirst(String source) {
        for (String line : source.split("\n")) {
            if (!line.matches(".*\\bnew\\b.*")) continue;
            boolean field = line.matches("\\s+(private )?(static )?final \\S+ \\w+ = new .*;");
            boolean place = line.matches("\\s+for \\(int i = 0; i < [A-Z_]+; i\\+\\+\\) \\w+\\[i\\] = new \\w+\\(\\);");
            due.is("new in:" + line, field || place ? 1 : 0, 1);
        }
    }

    private static void lengths(String source) {
        int begun = 0;
        int at = 0;
        for (String line : source.split("\n")) {
            at++;
            if (line.matches("    (    )?\\S.*\\) \\{")) begun = at;
            if (line.matches("    (    )?}")) due.is("a method's lines, to line " + at, at - begun <= 60 ? 1 : 0, 1);
        }
    }

    /** One run's objects and arrays are counted in one room: so no call but the constructor makes any. */
    private static void callsMakeNothing() {
        com.sun.management.ThreadMXBean threads = (com.sun.management.ThreadMXBean) ManagementFactory.getThreadMXBean();
        if (!threads.isThreadAllocatedMemorySupported()) return;
        everyCall(new PalmTastes());
        PalmTastes x = new PalmTastes();
        long before = threads.getCurrentThreadAllocatedBytes();
        int sum = everyCall(x);
        long made = threads.getCurrentThreadAllocatedBytes() - before;
        due.is("bytes made by the calls: " + made + " (" + sum + ")", made < 2000 ? 1 : 0, 1);
    }

    private static final long[] TEXT = {0x77616c6c20392038L, 0x2037203620353b77L, 0x616c6c2039203820L, 0x3720362035203b72L,
        0x6561646572207761L, 0x7820302030203020L, 0x302030203bL};

    private static int everyCall(PalmTastes x) {
        int sum = 0;
        for (int i = 0; i < 7; i++) sum += x.feed(TEXT[i], i < 6 ? 8 : 5);
        sum += x.street() + x.fault();
        for (int i = 0; i < 20; i++) {
            sum += x.row(i % 8, 0, 40) + x.set(i % 8, 1, 1) + x.copy(i % 8, 0, 0, 0, 3) + x.drop(7);
            sum += x.paint(0, 1, 2) + x.walk(0, 0, 1) + x.day(0) + x.rest(0) + x.undo() + x.wall(0, 0) + x.reader(0, 0);
            sum += x.felt(0, 1, 1) + x.read(0, 0, 1, 1) + x.wrong(0, 0, 1, 0) + x.often(0, 1, 0) + x.spice(0, 0, 1, 0, -1);
            sum += x.both(0, 0, 1, 0) + x.order(0, 30, 0) + x.written(0, 0, 1, 1) + x.forged(0, 0) + x.image(0) + x.restore(0);
            sum += x.kind(0) + x.as(0, 5) + x.ask(0, 1) + x.trace(1) + x.count(5) + x.status();
        }
        return sum;
    }
}
