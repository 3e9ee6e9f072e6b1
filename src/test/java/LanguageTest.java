import java.lang.reflect.Constructor;
import java.lang.reflect.Field;
import java.lang.reflect.Method;
import java.lang.reflect.Modifier;
import java.nio.file.Files;
import java.nio.file.Path;
import java.util.Arrays;
import java.util.Map;
import java.util.TreeMap;
import java.util.TreeSet;
import java.util.regex.Matcher;
import java.util.regex.Pattern;

/** The face of the class, and those rules of LANGUAGE.md that can be seen from outside or in its text. */
public final class LanguageTest {
    private static int wrong = 0;

    private static final String[] FACE = {
        "int tell(long)", "int read()", "int fault(boolean)", "boolean paint(int,int,int)", "boolean shift(int,int)",
        "boolean turn(int)", "boolean dye(int,int)", "boolean net(boolean)", "int make(int,int,int,int)", "int mend(int)",
        "int reduce()", "int undo()", "int count(int)", "int cell(int,int)", "int step(boolean,int)",
        "int shifts(int,int,int)", "int flip(int)", "int centre(int,int,int)", "int kind(int,int)", "int strip(int)",
        "int coloured(int,boolean)", "int like(int)", "int flaws(int)", "int orbit(int,int,int,boolean)",
        "int nearest(int)", "int painted(int,int,int)", "int better()", "boolean image(int)", "boolean again(int)"};

    public static void main(String[] args) throws Exception {
        face();
        classes();
        text();
        System.out.println(wrong == 0 ? "the face and the rules are kept" : wrong + " rules are not kept");
        if (wrong != 0) {
            System.exit(1);
        }
    }

    private static void must(boolean holds, String rule) {
        if (!holds) {
            wrong++;
            System.out.println("not so: " + rule);
        }
    }

    private static void face() {
        TreeSet<String> due = new TreeSet<>(Arrays.asList(FACE));
        TreeSet<String> there = new TreeSet<>();
        TreeSet<String> names = new TreeSet<>();
        for (Method m : OrnamentDesk.class.getDeclaredMethods()) {
            if (Modifier.isPublic(m.getModifiers())) {
                StringBuilder one = new StringBuilder(m.getReturnType() + " " + m.getName() + "(");
                for (int k = 0; k < m.getParameterCount(); k++) {
                    one.append(k == 0 ? "" : ",").append(m.getParameterTypes()[k]);
                }
                there.add(one.append(")").toString());
                names.add(m.getName());
                must(!Modifier.isStatic(m.getModifiers()), m.getName() + " is no static method");
            } else {
                must(Modifier.isPrivate(m.getModifiers()), m.getName() + " is private");
            }
        }
        must(there.equals(due), "the public methods are those of the document: " + there);
        for (Class<?> c : OrnamentDesk.class.getDeclaredClasses()) {
            for (Method m : c.getDeclaredMethods()) {
                must(!names.contains(m.getName()), c.getSimpleName() + "." + m.getName() + " has a name of its own");
            }
        }
        for (Field f : OrnamentDesk.class.getDeclaredFields()) {
            boolean none = f.getName().equals("NONE") && Modifier.isPublic(f.getModifiers())
                && Modifier.isStatic(f.getModifiers()) && Modifier.isFinal(f.getModifiers());
            must(none || Modifier.isPrivate(f.getModifiers()), f.getName() + " is private");
        }
        Constructor<?>[] constructors = OrnamentDesk.class.getDeclaredConstructors();
        must(constructors.length == 1 && Modifier.isPublic(constructors[0].getModifiers())
            && constructors[0].getParameterCount() == 0, "one public constructor");
        must(Modifier.isFinal(OrnamentDesk.class.getModifiers()), "the class is final");
    }

    private static void classes() {
        Class<?>[] inside = OrnamentDesk.class.getDeclaredClasses();
        must(inside.length < 12, "at most some twelve classes");
        for (Class<?> c : inside) {
            must(Modifier.isStatic(c.getModifiers()) && !Modifier.isPublic(c.getModifiers()), c + " is static, not public");
            look(c);
        }
        look(OrnamentDesk.class);
    }

    private static void look(Class<?> c) {
        int fields = 0;
        for (Field f : c.getDeclaredFields()) {
            if (Modifier.isStatic(f.getModifiers())) {
                must(Modifier.isFinal(f.getModifiers()), f + " is final");
            } else {
                fields++;
            }
        }
        must(fields <= 20, c + " has at most some twenty fields");
        for (Method m : c.getDeclaredMethods()) {
            must(m.getParameterCount() <= 7, m + " has at most seven parameters");
        }
    }

    private static void text() throws Exception {
        Path path = Path.of("src/main/java/OrnamentDesk.java");
        String text = Files.readString(path);
        for (char c : text.toCharArray()) {
            must(c == '\n' || c >= 32 && c < 127, "plain signs alone");
        }
        String code = text.replaceAll("(?s)/\\*.*?\\*/", "").replaceAll("//[^\n]*", "").replaceAll("\"[^\"\n]*\"", "\"\"");
        for (String word : new String[] {"catch", "try", "finally", "synchronized", "assert", "package", "protected",
            "Object", "float", "double", "System", "Iterator", "List", "equals", "hashCode", "toString", "instanceof"}) {
            must(!Pattern.compile("\\b" + word + "\\b").matcher(code).find(), "no " + word);
        }
        must(!code.contains("->") && !code.contains("::") && !code.contains("Exact("), "no lambda, reference, Exact");
        Matcher imports = Pattern.compile("import ([^;]*);").matcher(code);
        while (imports.find()) {
            must(imports.group(1).equals("java.util.NoSuchElementException"), "no import of " + imports.group(1));
        }
        Matcher library = Pattern.compile("\\b(Math|Long|Integer)\\.(\\w+)").matcher(code);
        while (library.find()) {
            must(Arrays.asList("bitCount", "max", "min").contains(library.group(2)), "no " + library.group());
        }
        Matcher thrown = Pattern.compile("\\bthrow\\b[^;]*").matcher(code);
        int throwing = 0;
        while (thrown.find()) {
            throwing++;
            must(thrown.group().equals("throw new NoSuchElementException(\"\")"), "no other " + thrown.group());
        }
        must(throwing == 1, "one place that throws");
        depth(code);
        int start = 0;
        String[] lines = text.split("\n");
        for (int k = 0; k < lines.length; k++) {
            must(lines[k].length() <= 120, "line " + (k + 1) + " has at most 120 signs");
            if (lines[k].matches(" {4}(?: {4})?[a-z].*\\) (?:throws \\w+ )?\\{")) {
                start = k;
            }
            if (lines[k].matches(" {4}(?: {4})?\\}")) {
                must(k - start <= 60, "the method at line " + (start + 1) + " has at most some sixty lines");
                start = k;
            }
        }
    }

    /** Methods of one name count as one here: none of them calls its namesake by a longer way. */
    private static void depth(String code) {
        Matcher head = Pattern.compile("(?m)^ {4}(?: {4})?(?:(?:public|private|static|final) )*[\\w\\[\\]]+ (\\w+)\\([^)]*\\)"
            + "(?: throws \\w+)? \\{$").matcher(code);
        Map<String, TreeSet<String>> calls = new TreeMap<>();
        String name = "";
        int from = 0;
        while (head.find()) {
            note(calls, name, code.substring(from, head.start()));
            name = head.group(1);
            from = head.end();
        }
        note(calls, name, code.substring(from));
        calls.remove("");
        for (String one : calls.keySet()) {
            must(deep(calls, one, 0) <= 8, "calls from " + one + " go at most eight deep");
        }
    }

    private static void note(Map<String, TreeSet<String>> calls, String name, String body) {
        TreeSet<String> called = calls.computeIfAbsent(name, none -> new TreeSet<>());
        Matcher call = Pattern.compile("\\b(\\w+)\\(").matcher(body);
        while (call.find()) {
            called.add(call.group(1));
        }
    }

    private static int deep(Map<String, TreeSet<String>> calls, String name, int above) {
        int most = 0;
        for (String other : calls.get(name)) {
            if (calls.containsKey(other) && !other.equals(name) && above < 20) {
                most = Math.max(most, deep(calls, other, above + 1));
            }
        }
        return most + 1;
    }
}
