import java.lang.reflect.Constructor;
import java.lang.reflect.Field;
import java.lang.reflect.Method;
import java.lang.reflect.Modifier;
import java.nio.file.Files;
import java.nio.file.Path;
import java.util.Arrays;
import java.util.List;
import java.util.Map;
import java.util.Set;
import java.util.TreeMap;
import java.util.TreeSet;
import java.util.regex.Matcher;
import java.util.regex.Pattern;

/** Rules of LANGUAGE.md that can be read off the source or the compiled class. */
public final class LanguageTest {
    private static final List<String> FACE = List.of(
        "int write(int)", "int wipe()", "int fault()", "int board()", "int gate(int,int)", "int step(int)",
        "int input(int,int)", "int lay(int,int)", "int pins(int)", "int undo()", "int ahead(int,int)",
        "int round(int)", "int when(int,int)", "int slots(int)", "int fewest(int)", "int judge(int,long)",
        "int see(int,int,int,int)", "int unsee()", "int which()", "int share(int,boolean)",
        "int fails(int,int,int,int,boolean)", "long seed(long)", "int drawn(int)", "int keep(int)",
        "int again(int)", "int count(int)");

    private LanguageTest() {
    }

    public static void main(String[] args) throws Exception {
        String source = Files.readString(Path.of("src/main/java/ChipSlots.java"));
        face();
        nested();
        words(bare(source));
        lengths(source);
        depths(bare(source));
        Check.finish();
    }

    private static void face() {
        Check.isTrue("public and final", (ChipSlots.class.getModifiers() & (Modifier.PUBLIC | Modifier.FINAL))
            == (Modifier.PUBLIC | Modifier.FINAL));
        Set<String> open = new TreeSet<>();
        Set<String> names = new TreeSet<>();
        for (Method m : ChipSlots.class.getDeclaredMethods()) {
            if (!Modifier.isPrivate(m.getModifiers())) {
                String types = Arrays.toString(m.getParameterTypes()).replaceAll("[\\[\\] ]", "");
                open.add(m.getReturnType() + " " + m.getName() + "(" + types + ")");
                names.add(m.getName());
                Check.isTrue(m + " is public and of the object", m.getModifiers() == Modifier.PUBLIC);
            }
        }
        Check.isTrue("the face is " + open, open.equals(new TreeSet<>(FACE)));
        for (Method m : ChipSlots.class.getDeclaredMethods()) {
            Check.isTrue(m + " bears a public name",
                !Modifier.isPrivate(m.getModifiers()) || !names.contains(m.getName()));
        }
        Constructor<?>[] constructors = ChipSlots.class.getDeclaredConstructors();
        Check.due("constructors", constructors.length, 1);
        Check.isTrue("the constructor", constructors[0].getModifiers() == Modifier.PUBLIC
            && constructors[0].getParameterCount() == 0);
        Set<String> constants = new TreeSet<>();
        for (Field f : ChipSlots.class.getDeclaredFields()) {
            if (!Modifier.isPrivate(f.getModifiers())) {
                constants.add(f.getName());
                Check.isTrue(f + " is a public constant",
                    f.getModifiers() == (Modifier.PUBLIC | Modifier.STATIC | Modifier.FINAL));
            }
        }
        Check.isTrue("constants are " + constants,
            constants.equals(Set.of("UNKNOWN", "OUTSIDE", "STATE", "FULL", "NONE")));
    }

    private static void nested() {
        Class<?>[] inside = ChipSlots.class.getDeclaredClasses();
        Check.isTrue("at most twelve classes", inside.length < 12);
        for (Class<?> c : inside) {
            Check.isTrue(c + " is static", Modifier.isStatic(c.getModifiers()));
            Check.isTrue(c + " is not public", !Modifier.isPublic(c.getModifiers()));
            fields(c);
        }
        fields(ChipSlots.class);
    }

    private static void fields(Class<?> c) {
        int own = 0;
        for (Field f : c.getDeclaredFields()) {
            boolean fixed = Modifier.isStatic(f.getModifiers());
            own += fixed ? 0 : 1;
            Check.isTrue(f + " is static and not final", !fixed || Modifier.isFinal(f.getModifiers()));
        }
        Check.isTrue(c + " has " + own + " fields", own <= 20);
        for (Method m : c.getDeclaredMethods()) {
            Check.isTrue(m + " has too many parameters", m.getParameterCount() <= 7);
        }
    }

    private static String bare(String source) {
        return source.replaceAll("(?s)/\\*.*?\\*/", " ").replaceAll("//[^\n]*", " ");
    }

    private static void words(String source) {
        String[] banned = {"\\bimport\\b", "\\bpackage\\b", "\\bthrow\\b", "\\bthrows\\b", "\\btry\\b", "\\bcatch\\b",
            "\\bsynchronized\\b", "\\bassert\\b", "->", "::", "\\w+Exact\\b", "\\bstatic\\s*\\{", "\\bSystem\\b",
            "\\bThread\\b", "\\bObject\\b", "\\bdouble\\b", "\\bfloat\\b", "\\bwhile\\s*\\(\\s*true",
            "for\\s*\\(\\s*;", "\\bnull\\b", "[^\\x00-\\x7f]"};
        for (String word : banned) {
            Matcher m = Pattern.compile(word).matcher(source);
            Check.isTrue("the source has " + word, !m.find());
        }
    }

    /**
     * Methods of one name in several classes count as one, so the depths are at least the true ones. Rule 8
     * would allow recursion; there is none.
     */
    private static void depths(String source) {
        Map<String, Set<String>> calls = new TreeMap<>();
        String head = "^( {4}| {8})[a-z][\\w\\[\\] ]* (\\w+)\\([^)]*\\) \\{$";
        Matcher method = Pattern.compile("(?ms)" + head + "(.*?)^\\1\\}$").matcher(source);
        while (method.find()) {
            calls.computeIfAbsent(method.group(2), name -> new TreeSet<>()).addAll(called(method.group(3)));
        }
        Check.isTrue("all public methods are found: " + calls.keySet(), calls.keySet().containsAll(
            FACE.stream().map(m -> m.replaceAll("^\\w+ |\\(.*", "")).toList()));
        for (String name : calls.keySet()) {
            Check.isTrue(name + " goes deeper than eight calls", depth(name, calls, 1) <= 8);
        }
    }

    private static Set<String> called(String body) {
        Set<String> names = new TreeSet<>();
        Matcher call = Pattern.compile("\\b(\\w+)\\(").matcher(body);
        while (call.find()) {
            names.add(call.group(1));
        }
        return names;
    }

    private static int depth(String name, Map<String, Set<String>> calls, int open) {
        int deepest = open;
        for (String next : calls.get(name)) {
            if (calls.containsKey(next) && open <= 8) {
                deepest = Math.max(deepest, depth(next, calls, open + 1));
            }
        }
        return deepest;
    }

    private static void lengths(String source) {
        String[] lines = source.split("\n");
        int start = -1;
        String end = "";
        for (int i = 0; i < lines.length; i++) {
            Check.isTrue("line " + (i + 1) + " is too long", lines[i].length() <= 110);
            Matcher head = Pattern.compile("^( {4}| {8})[a-z].*\\) \\{$").matcher(lines[i]);
            if (start < 0 && head.find()) {
                start = i;
                end = head.group(1) + "}";
            } else if (start >= 0 && lines[i].equals(end)) {
                Check.isTrue("method at line " + (start + 1) + " is too long", i - start < 60);
                start = -1;
            }
        }
    }
}
