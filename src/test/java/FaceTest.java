import java.lang.reflect.Field;
import java.lang.reflect.Method;
import java.lang.reflect.Modifier;
import java.nio.charset.StandardCharsets;
import java.nio.file.Files;
import java.nio.file.Path;
import java.util.ArrayList;
import java.util.List;
import java.util.Map;
import java.util.Set;
import java.util.TreeMap;
import java.util.TreeSet;
import java.util.regex.Matcher;
import java.util.regex.Pattern;

/** The face that the document shows, and those rules of LANGUAGE.md that can be seen from outside or in the source. */
public final class FaceTest {
    private static final Path SOURCE = Path.of("src/main/java/ScribeTables.java");
    private static final Path DOCUMENT = Path.of("../shared/DOC.md");
    private static final Set<String> CONSTANTS = Set.of("int", "long", "boolean", "char", "String", "int[]", "long[]", "char[]", "byte[]");
    /** What the program uses of the library; LANGUAGE.md lists more. */
    private static final Set<String> LIBRARY = Set.of("Arrays.fill", "System.arraycopy", "Integer.bitCount", "Math.min");
    /** Of which class the objects are that the source calls so. */
    private static final Map<String, String> CLASS_OF = Map.of("live", "World", "draft", "World", "kept", "World", "world", "World",
        "writers", "Writers", "people", "People", "tape", "Tape", "reader", "TextReader", "sheets", "Sheets");
    private static int wrong = 0;

    private static void must(boolean is, String what) {
        if (is) return;
        wrong++;
        System.out.println("not so: " + what);
    }

    private static String signature(Method m) {
        StringBuilder b = new StringBuilder(m.getReturnType().getName()).append(' ').append(m.getName()).append('(');
        for (Class<?> p : m.getParameterTypes()) b.append(b.charAt(b.length() - 1) == '(' ? "" : ",").append(p.getName());
        return b.append(')').toString();
    }

    private static void face() throws Exception {
        Class<?> c = ScribeTables.class;
        must(Modifier.isPublic(c.getModifiers()) && Modifier.isFinal(c.getModifiers()), "the class is public and final");
        must(c.getDeclaredConstructors().length == 1, "one constructor");
        must(Modifier.isPublic(c.getDeclaredConstructor().getModifiers()), "a public constructor without parameters");
        Set<String> told = new TreeSet<>();
        Matcher m = Pattern.compile("public int (\\w+)\\(([^)]*)\\);").matcher(Files.readString(DOCUMENT));
        while (m.find()) {
            String types = m.group(2).replaceAll("(\\w+) \\w+", "$1").replace(" ", "");
            told.add("int " + m.group(1) + "(" + types + ")");
        }
        must(told.size() == 50, "the document shows 50 methods");
        Set<String> open = new TreeSet<>();
        Set<String> names = new TreeSet<>();
        for (Method f : c.getDeclaredMethods()) {
            if (Modifier.isPublic(f.getModifiers())) {
                open.add(signature(f));
                names.add(f.getName());
                must(!Modifier.isStatic(f.getModifiers()), f + " isn't static");
            } else {
                must(Modifier.isPrivate(f.getModifiers()), f + " is private");
            }
        }
        must(open.equals(told), "the methods are the document's: " + open + " and " + told);
        for (Field f : c.getDeclaredFields()) must(Modifier.isPrivate(f.getModifiers()), f + " is private");
        for (Method f : c.getDeclaredMethods()) {
            must(Modifier.isPublic(f.getModifiers()) || !names.contains(f.getName()), f + " has a name of its own");
        }
        inside(c, names);
    }

    private static void inside(Class<?> c, Set<String> names) {
        List<Class<?>> all = new ArrayList<>(List.of(c.getDeclaredClasses()));
        must(all.size() < 12, "at most twelve classes");
        for (Class<?> n : all) {
            must(Modifier.isStatic(n.getModifiers()), n + " is static");
            must(!Modifier.isPublic(n.getModifiers()) && !Modifier.isProtected(n.getModifiers()), n + " isn't public");
            for (Method f : n.getDeclaredMethods()) must(!names.contains(f.getName()), f + " has a name of its own");
        }
        all.add(c);
        for (Class<?> n : all) {
            int own = 0;
            for (Field f : n.getDeclaredFields()) {
                boolean isStatic = Modifier.isStatic(f.getModifiers());
                must(!isStatic || Modifier.isFinal(f.getModifiers()), f + " is final");
                must(!isStatic || CONSTANTS.contains(f.getType().getSimpleName()), f + " is of a type that constants may have");
                if (!isStatic) own++;
            }
            must(own <= 20, n + " has at most twenty fields");
            for (Method f : n.getDeclaredMethods()) must(f.getParameterCount() <= 7, f + " takes at most seven parameters");
        }
    }

    private static void source() throws Exception {
        byte[] bytes = Files.readAllBytes(SOURCE);
        for (byte b : bytes) must(b > 0, "the source has signs 1 to 127 alone");
        String text = new String(bytes, StandardCharsets.US_ASCII);
        String code = text.replaceAll("(?s)/\\*.*?\\*/", "").replaceAll("//[^\n]*", "").replaceAll("\"[^\"\n]*\"", "\"\"");
        for (String word : List.of("throw", "throws", "try", "catch", "synchronized", "assert", "package", "float", "double",
            "lambda", "HashMap", "Random", "System.out", "Thread", "Object")) {
            must(!Pattern.compile("\\b" + Pattern.quote(word) + "\\b").matcher(code).find(), "no " + word + " in the source");
        }
        for (String part : List.of("->", "::", "Exact", "static {", "String[]", ".equals(", ".format(")) {
            must(!code.contains(part), "no " + part + " in the source");
        }
        Matcher m = Pattern.compile("import ([^;]+);").matcher(code);
        while (m.find()) must(m.group(1).equals("java.util.Arrays"), "no import of " + m.group(1));
        m = Pattern.compile("\\b(Arrays|System|Math|Integer|Long|String|StringBuilder|List|ArrayList)\\.\\w+").matcher(code.replaceAll("import .*", ""));
        while (m.find()) must(LIBRARY.contains(m.group()), "the library's " + m.group() + " is one of those that are used");
        shortMethods(code);
        callsAreNotDeep(code);
    }

    private static void shortMethods(String code) {
        int begin = 0;
        int line = 0;
        for (String row : code.split("\n")) {
            line++;
            if (row.matches(" +(public|private|static|int|void|boolean|[A-Z]\\w*)[^=;]*\\{")) begin = line;
            if (row.matches(" {4,8}\\}")) must(line - begin <= 60, "the method at line " + begin + " has at most sixty lines");
        }
    }

    /** Each method, by its class and name, with those that it calls. */
    private static Map<String, Set<String>> callsOf(String code) {
        Map<String, String> bodies = new TreeMap<>();
        String inClass = "";
        Matcher m = Pattern.compile("(?m)^ *(?:(?:public|private|static|final) )*(?:class (\\w+)|[\\w\\[\\]]+ (\\w+)\\([^()]*\\)) \\{$").matcher(code);
        while (m.find()) {
            if (m.group(1) != null) {
                inClass = m.group(1);
                continue;
            }
            int open = 1;
            int end = m.end();
            for (; end < code.length() && open > 0; end++) open += code.charAt(end) == '{' ? 1 : code.charAt(end) == '}' ? -1 : 0;
            must(bodies.put(inClass + "." + m.group(2), code.substring(m.end(), end)) == null, inClass + "." + m.group(2) + " is there once");
        }
        Map<String, Set<String>> calls = new TreeMap<>();
        for (String method : bodies.keySet()) calls.put(method, calledIn(bodies.get(method), method.substring(0, method.indexOf('.')), bodies.keySet()));
        return calls;
    }

    private static Set<String> calledIn(String body, String inClass, Set<String> methods) {
        Set<String> called = new TreeSet<>();
        Matcher m = Pattern.compile("(?:(\\w+)\\.)?\\b(\\w+)\\(").matcher(body);
        while (m.find()) {
            String of = m.group(1) == null ? inClass : CLASS_OF.get(m.group(1));
            if (methods.contains(of + "." + m.group(2))) called.add(of + "." + m.group(2));
        }
        return called;
    }

    private static int depth(Map<String, Set<String>> calls, String method, int so) {
        int deepest = so;
        // a method that calls itself would never end here
        if (so > 20) return so;
        for (String called : calls.get(method)) deepest = Math.max(deepest, depth(calls, called, so + 1));
        return deepest;
    }

    private static void callsAreNotDeep(String code) {
        Map<String, Set<String>> calls = callsOf(code);
        must(calls.size() > 120, "the source's methods are found: " + calls.size());
        must(calls.get("World.letter").equals(Set.of("World.fee", "World.pay", "World.heard")), "the calls of a method are found");
        for (String method : calls.keySet()) must(depth(calls, method, 1) <= 8, "calls of " + method + " go at most eight deep");
        must(depth(calls, "ScribeTables.text", 1) == 8, "a TEXT is read by calls that go eight deep");
    }

    /** An object works with what its constructor made: a call makes nothing that would fill the room. */
    private static void nothingMadeInCalls() throws Exception {
        String code = Files.readString(SOURCE);
        Matcher m = Pattern.compile("(?m)^( +)(.*\\bnew \\w+[\\[(].*)$").matcher(code);
        while (m.find()) must(m.group(2).matches("\\w+ = new .*;"), "made in a constructor, for a field: " + m.group(2));
    }

    public static void main(String[] args) throws Exception {
        face();
        source();
        nothingMadeInCalls();
        System.out.println(wrong == 0 ? "the face and the source are as due" : wrong + " things are not as due");
        if (wrong != 0) System.exit(1);
    }
}
