import java.io.IOException;
import java.lang.reflect.Array;
import java.lang.reflect.Constructor;
import java.lang.reflect.Field;
import java.lang.reflect.Method;
import java.lang.reflect.Modifier;
import java.nio.file.Files;
import java.nio.file.Path;
import java.util.Arrays;
import java.util.Map;
import java.util.Set;
import java.util.TreeMap;
import java.util.TreeSet;
import java.util.regex.Matcher;
import java.util.regex.Pattern;
import java.util.stream.Collectors;

/** The public face, and what of LANGUAGE.md can be seen by looking. The source's path is the argument. */
public final class LanguageTest {
    private static final String FACE = """
        int row(int,int) int lay(int,int,int) int at(int,int) int tear(int) int copy(int,int,int,int,int) int mean(int)
        int text(int,int) int put(int,int,int) int fault(int) int river(int) int one(int,int) int mark(int,int)
        int night() int raise(int,int) int shame(int,int) int door(int,int) int undo(int) int keep(int) int on(int)
        int dares(int,int,int,int) int where(int) int crosses(int,int) int first(int) int lift(int,int) int cheap(int,int)
        int darings(int,int) int kinds(int,int) int look(int,int) int sets(int) int sure(int) int duel(int,int,int)
        int odds(int,int) int mid(int,int) int fair(int) int lots(int,int) int asked() long upper() long lower()
        int count(int) int finding() int findings(int) long digest()""";
    private static final String CONSTANTS = "BAD FULL FINDING STATE SPENT NONE";
    private static final String[] FORBIDDEN = {"throw", "try", "catch", "synchronized", "assert", "->", "::", "Exact",
        "package", "float", "double", "System\\.(?!arraycopy)", "Math\\.(?!abs|max|min)", "Arrays\\.(?!fill)"};

    public static void main(String[] args) throws IOException, IllegalAccessException {
        face();
        members(DareFord.class);
        for (Class<?> inside : DareFord.class.getDeclaredClasses()) {
            holds(inside + " is static", Modifier.isStatic(inside.getModifiers()));
            holds(inside + " is not public", !Modifier.isPublic(inside.getModifiers()));
            members(inside);
            for (Method m : inside.getDeclaredMethods()) {
                holds(m + " bears no name of the face", !FACE.contains(" " + m.getName() + "("));
            }
        }
        String source = Files.readString(Path.of(args.length > 0 ? args[0] : "src/main/java/DareFord.java"));
        words(source);
        objectsAreMadeWithTheObject(source);
        methodsAreShort(source);
        callsAreEightDeep(source);
        anObjectIsSmall();
        Due.end();
    }

    private static void holds(String what, boolean is) {
        Due.due(what, is ? 1 : 0, 1);
    }

    private static String signature(Method m) {
        return m.getReturnType().getName() + " " + m.getName() + "("
            + Arrays.stream(m.getParameterTypes()).map(Class::getName).collect(Collectors.joining(",")) + ")";
    }

    private static void face() {
        Set<String> want = new TreeSet<>();
        Matcher told = Pattern.compile("(?:int|long) \\w+\\([^)]*\\)").matcher(FACE);
        while (told.find()) {
            want.add(told.group());
        }
        Set<String> got = new TreeSet<>();
        Set<String> names = new TreeSet<>();
        for (Method m : DareFord.class.getDeclaredMethods()) {
            if (Modifier.isPublic(m.getModifiers())) {
                got.add(signature(m));
                names.add(m.getName());
                holds(m + " is no static one", !Modifier.isStatic(m.getModifiers()));
            }
        }
        Due.due("how many public methods", got.size(), 42);
        holds("the public methods " + got, got.equals(want));
        for (Method m : DareFord.class.getDeclaredMethods()) {
            holds(m + " bears no public name", Modifier.isPublic(m.getModifiers()) || !names.contains(m.getName()));
        }
        Set<String> constants = new TreeSet<>();
        for (Field f : DareFord.class.getDeclaredFields()) {
            if (Modifier.isPublic(f.getModifiers())) {
                constants.add(f.getName());
                holds(f + " is an int constant", Modifier.isStatic(f.getModifiers()) && f.getType() == int.class);
            }
        }
        holds("the constants " + constants, constants.equals(new TreeSet<>(Arrays.asList(CONSTANTS.split(" ")))));
        holds("the class is public and final", DareFord.class.getModifiers() == (Modifier.PUBLIC | Modifier.FINAL));
        Constructor<?>[] constructors = DareFord.class.getDeclaredConstructors();
        holds("one public constructor", constructors.length == 1 && Modifier.isPublic(constructors[0].getModifiers())
            && constructors[0].getParameterCount() == 0);
    }

    private static void members(Class<?> of) {
        int fields = 0;
        for (Field f : of.getDeclaredFields()) {
            int is = f.getModifiers();
            holds(f + " is static and final, or neither public nor static",
                Modifier.isStatic(is) ? Modifier.isFinal(is) : Modifier.isPrivate(is));
            holds(f + " is private or a constant of the face",
                Modifier.isPrivate(is) || CONSTANTS.contains(f.getName()));
            fields += Modifier.isStatic(is) ? 0 : 1;
        }
        holds(of + " has some twenty fields at most, has " + fields, fields <= 20);
        for (Method m : of.getDeclaredMethods()) {
            holds(m + " has seven parameters at most", m.getParameterCount() <= 7);
            holds(m + " is public or private", Modifier.isPublic(m.getModifiers()) || Modifier.isPrivate(m.getModifiers()));
        }
    }

    private static String bare(String source) {
        return source.replaceAll("(?s)/\\*.*?\\*/", " ").replaceAll("//[^\n]*", " ").replaceAll("'[^']+'", "' '");
    }

    private static void words(String source) {
        String bare = bare(source);
        for (String word : FORBIDDEN) {
            String sought = word.matches("\\w+") ? "\\b\\w*" + word + "\\b" : word;
            holds("no '" + word + "'", !Pattern.compile(sought).matcher(bare).find());
        }
        Matcher imports = Pattern.compile("import ([^;]+);").matcher(bare);
        while (imports.find()) {
            holds("import " + imports.group(1), imports.group(1).equals("java.util.Arrays"));
        }
        holds("signs 1 to 127 alone", source.chars().allMatch(c -> c > 0 && c < 128));
    }

    /** What a run makes is counted: no call makes an object, all stand from the constructor on. */
    private static void objectsAreMadeWithTheObject(String source) {
        for (String line : bare(source).split("\n")) {
            if (line.matches(".*\\bnew\\b.*")) {
                holds("a field's own: " + line.trim(), line.matches(" +private final [\\w\\[\\]]+ \\w+ = new [\\w\\[\\]() +]+;"));
            }
        }
    }

    private static void methodsAreShort(String source) {
        int begun = 0;
        String[] lines = source.split("\n");
        for (int at = 0; at < lines.length; at++) {
            if (lines[at].matches(" +(public|private) .*\\) \\{")) {
                begun = at;
            }
            holds("short: " + lines[begun].trim(), !lines[at].matches("(    )?    }") || at - begun < 60
                || lines[at].equals("    }") && lines[at + 1].equals("}"));
        }
    }

    /** Of each method those that it calls; each name is declared once, and calls itself at most. */
    private static void callsAreEightDeep(String source) {
        Pattern declared = Pattern.compile(" +(?:public|private) [\\w\\[\\] ]+ (\\w+)\\(.*\\{");
        Map<String, Set<String>> calls = new TreeMap<>();
        String[] lines = bare(source).split("\n");
        for (String line : lines) {
            Matcher m = declared.matcher(line);
            if (m.matches()) {
                holds(m.group(1) + " is declared once", calls.put(m.group(1), new TreeSet<>()) == null);
            }
        }
        String within = "";
        for (String line : lines) {
            Matcher m = declared.matcher(line);
            within = m.matches() ? m.group(1) : within;
            Matcher call = Pattern.compile("\\b(\\w+)\\(").matcher(line);
            while (call.find()) {
                if (calls.containsKey(call.group(1)) && !call.group(1).equals(within) && calls.containsKey(within)) {
                    calls.get(within).add(call.group(1));
                }
            }
        }
        for (String name : calls.keySet()) {
            int deep = depth(calls, name, 1);
            holds(name + " goes eight deep at most, goes " + deep, deep <= 8);
        }
    }

    private static int depth(Map<String, Set<String>> calls, String name, int at) {
        int deepest = at;
        for (String called : at > 20 ? Set.<String>of() : calls.get(name)) {
            deepest = Math.max(deepest, depth(calls, called, at + 1));
        }
        return deepest;
    }

    /** Some 600,000 objects and 7.3 million fields and elements are there for all calls of one run. */
    private static void anObjectIsSmall() throws IllegalAccessException {
        int[] counted = new int[2];
        count(new DareFord(), counted);
        holds("an object has 100 objects and arrays at most, has " + counted[0], counted[0] <= 100);
        holds("an object has 1500 fields and elements at most, has " + counted[1], counted[1] <= 1500);
    }

    private static void count(Object of, int[] counted) throws IllegalAccessException {
        counted[0]++;
        if (of.getClass().isArray()) {
            counted[1] += Array.getLength(of);
            for (int i = 0; i < Array.getLength(of) && !of.getClass().getComponentType().isPrimitive(); i++) {
                count(Array.get(of, i), counted);
            }
            return;
        }
        for (Field f : of.getClass().getDeclaredFields()) {
            if (!Modifier.isStatic(f.getModifiers())) {
                counted[1]++;
                f.setAccessible(true);
                if (!f.getType().isPrimitive()) {
                    count(f.get(of), counted);
                }
            }
        }
    }
}
