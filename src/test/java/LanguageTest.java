import java.io.IOException;
import java.lang.reflect.Constructor;
import java.lang.reflect.Field;
import java.lang.reflect.Member;
import java.lang.reflect.Method;
import java.lang.reflect.Modifier;
import java.nio.file.Files;
import java.nio.file.Path;
import java.util.ArrayList;
import java.util.Arrays;
import java.util.HashSet;
import java.util.List;
import java.util.Set;
import java.util.TreeSet;
import java.util.regex.Matcher;
import java.util.regex.Pattern;

/** The face of the document, and those rules of LANGUAGE.md that a text or a class file shows. */
public final class LanguageTest {
    private static final Path SOURCE = Path.of("src/main/java/PulseClocks.java");
    private static final Path DOCUMENT = Path.of("../shared/DOC.md");

    public static void main(String[] args) throws IOException {
        String source = Files.readString(SOURCE);
        face(Files.readString(DOCUMENT));
        headings(Files.readString(DOCUMENT), source);
        members();
        words(withoutComments(source));
        calls(withoutComments(source));
        Check.end();
    }

    private static void same(String what, Object got, Object want) {
        if (got.equals(want)) {
            Check.due(what, 0, 0);
        } else {
            Check.fail(what + ": is " + got + ", due is " + want);
        }
    }

    private static void face(String document) {
        Matcher m = Pattern.compile("^    public (\\w+) (\\w+)\\(([^)]*)\\)( throws ([^;]*))?;$", Pattern.MULTILINE)
            .matcher(document);
        Set<String> want = new TreeSet<>();
        while (m.find()) {
            String types = m.group(3).replaceAll("(\\w+) \\w+", "$1").replace(" ", "");
            String thrown = m.group(5) == null ? "" : m.group(5).replace(" ", "");
            want.add(m.group(1) + " " + m.group(2) + "(" + types + ")" + thrown);
        }
        Set<String> got = new TreeSet<>();
        for (Method method : PulseClocks.class.getDeclaredMethods()) {
            if (!Modifier.isPrivate(method.getModifiers())) {
                got.add(method.getReturnType().getSimpleName() + " " + method.getName()
                    + "(" + names(method.getParameterTypes()) + ")" + names(method.getExceptionTypes()));
            }
        }
        same("rule 1: the methods of the face", got, want);
        Check.due("the number of methods of the face", want.size(), 37);
    }

    /** What the interface says ahead of some calls stands ahead of them, and they in the document's order. */
    private static void headings(String document, String source) {
        Matcher m = Pattern.compile("Ahead of the calls ([^.]*) the interface says: ([^.]*)\\.").matcher(document);
        int found = 0;
        int at = 0;
        while (m.find()) {
            found++;
            at = behind("// " + m.group(2) + "\n", source, at);
            for (String call : m.group(1).replace("`", "").split(", ")) {
                at = behind("    public ", source, at);
                at = source.startsWith(call + "(", source.indexOf(' ', at) + 1) ? at : source.length();
                Check.due("the heading and the order of " + call, at < source.length(), true);
            }
        }
        Check.due("headings of the interface", found, 5);
    }

    /** Behind the next place of a text; the end if there is none. */
    private static int behind(String text, String source, int from) {
        int at = source.indexOf(text, from);
        return at < 0 ? source.length() : at + text.length();
    }

    private static String names(Class<?>[] types) {
        List<String> names = new ArrayList<>();
        for (Class<?> type : types) {
            names.add(type.getSimpleName());
        }
        return String.join(",", names);
    }

    private static void members() {
        Class<PulseClocks> c = PulseClocks.class;
        same("rule 1: public and final", Modifier.toString(c.getModifiers()), "public final");
        same("rule 1: open fields", open(c.getDeclaredFields()), List.of("NONE"));
        Constructor<?>[] constructors = c.getDeclaredConstructors();
        Check.due("rule 1: constructors", constructors.length, 1);
        Check.due("rule 1: its parameters", constructors[0].getParameterCount(), 0);
        Check.due("rule 1: it is public", Modifier.isPublic(constructors[0].getModifiers()), true);
        Set<String> face = new HashSet<>(open(c.getDeclaredMethods()));
        List<Class<?>> all = new ArrayList<>(List.of(c));
        all.addAll(Arrays.asList(c.getDeclaredClasses()));
        Check.due("rule 11: some twelve classes", all.size() <= 12, true);
        for (Class<?> one : all) {
            checkClass(one, one == c, face);
        }
    }

    private static List<String> open(Member[] members) {
        List<String> names = new ArrayList<>();
        for (Member member : members) {
            if (!Modifier.isPrivate(member.getModifiers())) {
                names.add(member.getName());
            }
        }
        return names;
    }

    private static void checkClass(Class<?> one, boolean outer, Set<String> face) {
        String name = one.getSimpleName();
        Check.due("rule 1: " + name + " is static", outer || Modifier.isStatic(one.getModifiers()), true);
        int fields = 0;
        for (Field field : one.getDeclaredFields()) {
            if (Modifier.isStatic(field.getModifiers())) {
                Check.due("rule 5: " + field, Modifier.isFinal(field.getModifiers()), true);
            } else {
                fields++;
            }
        }
        Check.due("rule 11: fields of " + name, fields <= 20, true);
        for (Method method : one.getDeclaredMethods()) {
            boolean faces = outer && Modifier.isPublic(method.getModifiers());
            Check.due("rule 1: the name of " + method, faces || !face.contains(method.getName()), true);
            Check.due("rule 11: parameters of " + method, method.getParameterCount() <= 7, true);
            Check.due("rule 2: " + method, method.isSynthetic(), false);
        }
    }

    private static String withoutComments(String source) {
        return source.replaceAll("(?s)/\\*.*?\\*/", "").replaceAll("//[^\n]*", "");
    }

    private static void words(String code) {
        String[] forbidden = {
            "->", "::", "Exact", "try", "catch", "finally", "synchronized", "assert", "import", "package",
            "double", "float", "static\\s*\\{", "getMessage", "hashCode", "toString", "System\\.(?!arraycopy)",
            "for\\s*\\(;", "while\\s*\\(true", "var", "instanceof", "Object", "volatile", "native",
        };
        for (String word : forbidden) {
            String pattern = Character.isLetter(word.charAt(0)) && !word.equals("Exact") ? "\\b" + word + "(?!\\w)" : word;
            Matcher m = Pattern.compile(pattern).matcher(code);
            if (m.find()) {
                Check.fail("the rules: the code has " + m.group());
            }
        }
        Matcher thrown = Pattern.compile("throw [^;]*;").matcher(code);
        while (thrown.find()) {
            same("rule 6: " + thrown.group(), thrown.group().matches(
                "throw new (IllegalStateException|IllegalArgumentException|IndexOutOfBoundsException)\\(\"[^\"]+\"\\);"), true);
        }
        for (int k = 0; k < code.length(); k++) {
            if (code.charAt(k) > 126) {
                Check.fail("rule 4: a sign beyond 127");
            }
        }
    }

    /** Methods stay short, and calls go at most eight deep; by their names alone, which are enough here. */
    private static void calls(String code) {
        Pattern head = Pattern.compile("\n( {4,8})(?:[\\w\\[\\]]+ )+(\\w+)\\([^)]*\\)[\\s\\w,]*\\{\n(.*?)\n\\1\\}", Pattern.DOTALL);
        Matcher m = head.matcher(code);
        List<String> names = new ArrayList<>();
        List<String> bodies = new ArrayList<>();
        int at = 0;
        while (m.find(at)) {
            at = m.end();
            names.add(m.group(2));
            bodies.add(m.group(3));
            Check.due("rule 11: lines of " + m.group(2), m.group(3).split("\n").length <= 60, true);
        }
        Check.due("methods were found", names.size() > 60, true);
        for (String name : names) {
            Check.due("rule 11: depth of " + name, depth(name, names, bodies, 1) <= 8, true);
        }
    }

    private static int depth(String name, List<String> names, List<String> bodies, int level) {
        if (level > 20) {
            return level;
        }
        int deepest = level;
        for (int k = 0; k < names.size(); k++) {
            if (names.get(k).equals(name)) {
                Matcher m = Pattern.compile("\\b(\\w+)\\(").matcher(bodies.get(k));
                while (m.find()) {
                    if (names.contains(m.group(1))) {
                        deepest = Math.max(deepest, depth(m.group(1), names, bodies, level + 1));
                    }
                }
            }
        }
        return deepest;
    }
}
