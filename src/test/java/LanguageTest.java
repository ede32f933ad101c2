import java.io.DataInputStream;
import java.io.IOException;
import java.io.InputStream;
import java.lang.reflect.Field;
import java.lang.reflect.Modifier;
import java.nio.file.Files;
import java.nio.file.Path;
import java.util.ArrayList;
import java.util.HashMap;
import java.util.LinkedHashMap;
import java.util.List;
import java.util.Map;
import java.util.Set;
import java.util.TreeSet;
import java.util.regex.Matcher;
import java.util.regex.Pattern;

/** Those rules of LANGUAGE.md that can be seen in the source and in the compiled classes; FaceTest has rules 1 and 5. */
public final class LanguageTest {
    // Of what rule 4 allows, all that the class asks for: another call is looked up there before it is put here.
    private static final Set<String> LIBRARY = Set.of("java/lang/Object.<init>", "java/lang/Math.max");
    private static final Set<String> FIELD_TYPES = Set.of("int", "boolean", "int[]", "boolean[]");
    private static final int CLASSES_MOST = 12;
    private static final int FIELDS_MOST = 20;
    private static final int LINES_MOST = 60;
    private static final int CALLS_DEEP_MOST = 8;

    private static final Checks CHECKS = new Checks();

    public static void main(String[] args) throws IOException {
        String source = Files.readString(Path.of(args[1], "src/main/java/NetWalkers.java"));
        List<Class<?>> classes = new ArrayList<>(List.of(NetWalkers.class));
        classes.addAll(List.of(NetWalkers.class.getDeclaredClasses()));
        CHECKS.due("rule 11: at most " + CLASSES_MOST + " classes", classes.size() <= CLASSES_MOST ? 1 : 0, 1);
        for (Class<?> one : classes) {
            checkLibrary(one);
            checkFields(one);
        }
        checkWords(source);
        Map<String, String> bodies = methodBodies(plain(source));
        checkMethods(bodies);
        CHECKS.end();
    }

    // ---- the compiled classes

    /** Rules 4, 6 and 13: what a class asks of other classes stands in its table of constants. */
    private static void checkLibrary(Class<?> one) throws IOException {
        Set<String> strange = new TreeSet<>();
        for (String call : calledElsewhere(one)) {
            if (!call.startsWith("NetWalkers") && !LIBRARY.contains(call)) {
                strange.add(call);
            }
        }
        CHECKS.due("rule 4: what " + one.getName() + " calls beyond the library", strange.toString(), "[]");
    }

    private static Set<String> calledElsewhere(Class<?> one) throws IOException {
        try (InputStream file = one.getResourceAsStream("/" + one.getName() + ".class");
             DataInputStream in = new DataInputStream(file)) {
            in.readInt();
            in.readInt();
            return members(in);
        }
    }

    private static Set<String> members(DataInputStream in) throws IOException {
        int count = in.readUnsignedShort();
        String[] texts = new String[count];
        int[][] links = new int[count][];
        Set<Integer> calls = new TreeSet<>();
        Set<String> names = new TreeSet<>();
        for (int k = 1; k < count; k++) {
            int tag = in.readUnsignedByte();
            switch (tag) {
                case 1 -> texts[k] = in.readUTF();
                case 3, 4 -> in.readInt();
                case 5, 6 -> {
                    in.readLong();
                    k++;
                }
                case 7, 8, 16, 19, 20 -> links[k] = new int[] {in.readUnsignedShort()};
                case 9, 10, 11, 12 -> links[k] = new int[] {in.readUnsignedShort(), in.readUnsignedShort()};
                default -> {
                    // Lambdas, method references and texts joined by + are made by constants of these kinds.
                    names.add("a constant of kind " + tag);
                    in.skipBytes(tag == 15 ? 3 : 4);
                }
            }
            if (tag >= 9 && tag <= 11) {
                calls.add(k);
            }
        }
        for (int call : calls) {
            String owner = texts[links[links[call][0]][0]];
            names.add(owner + "." + texts[links[links[call][1]][0]]);
        }
        return names;
    }

    /** Rules 3 and 11. */
    private static void checkFields(Class<?> one) {
        int fields = 0;
        for (Field field : one.getDeclaredFields()) {
            String type = field.getType().getSimpleName();
            boolean own = field.getType().getName().startsWith("NetWalkers$");
            CHECKS.due("rule 3: type of " + field, own || FIELD_TYPES.contains(type) ? 1 : 0, 1);
            fields += Modifier.isStatic(field.getModifiers()) ? 0 : 1;
        }
        CHECKS.due("rule 11: fields of " + one.getName(), fields <= FIELDS_MOST ? 1 : 0, 1);
    }

    // ---- the source

    /** The source without remarks. */
    private static String plain(String source) {
        return source.replaceAll("(?s)/\\*.*?\\*/", "").replaceAll("//[^\n]*", "");
    }

    private static void checkWords(String source) {
        // The class throws nothing and catches nothing, and makes its rows when it is made (rules 2, 6, 12 and 13).
        Matcher word = Pattern.compile("\\b(package|import|try|catch|finally|throw|throws|synchronized|assert|instanceof"
            + "|float|double|String|Object|native|volatile|transient|yield)\\b|->|::").matcher(plain(source));
        Set<String> found = new TreeSet<>();
        while (word.find()) {
            found.add(word.group());
        }
        CHECKS.due("words that the class does without", found.toString(), "[]");
    }

    /** The text of each method, by its name; of several with one name all that they say. */
    private static Map<String, String> methodBodies(String source) {
        Map<String, String> bodies = new LinkedHashMap<>();
        // A constructor has no type ahead of its name, and is not looked at: it makes the rows.
        Matcher head = Pattern.compile("(?m)^ +(?:(?:public|private|static|final) )*"
            + "(?!(?:public|private|static|final|else|return|new) )[\\w\\[\\]]+ (\\w+)\\([^)]*\\) \\{$").matcher(source);
        while (head.find()) {
            int end = endOfBlock(source, head.end() - 1);
            bodies.merge(head.group(1), source.substring(head.end(), end), String::concat);
            int lines = source.substring(head.start(), end).split("\n").length;
            CHECKS.due("rule 11: lines of " + head.group(1), lines <= LINES_MOST ? 1 : 0, 1);
        }
        return bodies;
    }

    private static int endOfBlock(String source, int open) {
        int depth = 0;
        for (int at = open; at < source.length(); at++) {
            depth += source.charAt(at) == '{' ? 1 : source.charAt(at) == '}' ? -1 : 0;
            if (depth == 0) {
                return at;
            }
        }
        return source.length();
    }

    /** Rules 8, 11 and 12: how deep calls go, that none comes back to itself, and that nothing is made in one. */
    private static void checkMethods(Map<String, String> bodies) {
        CHECKS.due("methods of the face that are found", bodies.keySet().containsAll(Set.of("posts", "sent", "ring", "told")) ? 1 : 0, 1);
        Map<String, Integer> known = new HashMap<>();
        for (String name : bodies.keySet()) {
            int deep = callsDeep(name, bodies, known, 0);
            CHECKS.due("rules 8 and 11: how deep the calls of " + name + " go, " + deep, deep <= CALLS_DEEP_MOST ? 1 : 0, 1);
            boolean makes = Pattern.compile("\\bnew\\b").matcher(bodies.get(name)).find();
            CHECKS.due("rule 12: " + name + " makes something", makes ? 1 : 0, 0);
        }
    }

    private static int callsDeep(String name, Map<String, String> bodies, Map<String, Integer> known, int open) {
        if (open > 2 * CALLS_DEEP_MOST) {
            return 2 * CALLS_DEEP_MOST;
        }
        Integer before = known.get(name);
        if (before != null) {
            return before;
        }
        int deepest = 0;
        Matcher call = Pattern.compile("\\b(\\w+)\\(").matcher(bodies.get(name));
        while (call.find()) {
            if (bodies.containsKey(call.group(1))) {
                deepest = Math.max(deepest, callsDeep(call.group(1), bodies, known, open + 1));
            }
        }
        known.put(name, deepest + 1);
        return deepest + 1;
    }
}
